/-! loops in general; counts, sums, the first of a kind; who sees whom -/
theorem loop_to {σ μ α : Type} (R : Int → σ → μ → α) (F : Int → σ) (a n : Int) (h : ∀ i l, a ≤ i → i < n → ∃ l', R i (F i) l = R (i + 1) (F (i + 1)) l') (han : a ≤ n) (l : μ) : ∃ l', R a (F a) l = R n (F n) l' := by
  have key : ∀ (k : Nat) (i : Int) (l : μ), a ≤ i → i + k = n → ∃ l', R i (F i) l = R n (F n) l' := by
    intro k
    induction k with
    | zero =>
      intro i l _ e
      have e2 : i = n := by omega
      subst e2
      exact ⟨l, rfl⟩
    | succ k ih =>
      intro i l hi e
      obtain ⟨l', e1⟩ := h i l hi (by omega)
      obtain ⟨l2, e2⟩ := ih (i + 1) l' (by omega) (by omega)
      exact ⟨l2, e1.trans e2⟩
  exact key (n - a).toNat a l (Int.le_refl _) (by omega)
theorem loop_find {μ α : Type} (R : Int → μ → α) (P : Int → Prop) (ret : Int → α) (a n : Int) (h : ∀ i l, a ≤ i → i < n → ∃ l', R i l = cif (P i) (ret i) (R (i + 1) l')) (han : a ≤ n) (l : μ) :
    (∃ i, a ≤ i ∧ i < n ∧ P i ∧ (∀ j, a ≤ j → j < i → ¬ P j) ∧ R a l = ret i) ∨ ((∀ j, a ≤ j → j < n → ¬ P j) ∧ ∃ l', R a l = R n l') := by
  have key : ∀ (k : Nat) (i : Int) (l : μ), a ≤ i → i + k = n → (∃ i', i ≤ i' ∧ i' < n ∧ P i' ∧ (∀ j, i ≤ j → j < i' → ¬ P j) ∧ R i l = ret i') ∨ ((∀ j, i ≤ j → j < n → ¬ P j) ∧ ∃ l', R i l = R n l') := by
    intro k
    induction k with
    | zero =>
      intro i l _ e
      have e2 : i = n := by omega
      subst e2
      exact Or.inr ⟨fun j h1 h2 => by omega, l, rfl⟩
    | succ k ih =>
      intro i l hi e
      obtain ⟨l', e1⟩ := h i l hi (by omega)
      by_cases hp : P i
      · rw [cif_pos hp] at e1
        exact Or.inl ⟨i, Int.le_refl _, by omega, hp, fun j h1 h2 => by omega, e1⟩
      · rw [cif_neg hp] at e1
        rcases ih (i + 1) l' (by omega) (by omega) with ⟨i', a1, a2, a3, a4, a5⟩ | ⟨a1, l2, a2⟩
        · refine Or.inl ⟨i', by omega, a2, a3, fun j h1 h2 => ?_, e1.trans a5⟩
          by_cases e3 : j = i
          · rw [e3]; exact hp
          · exact a4 j (by omega) h2
        · refine Or.inr ⟨fun j h1 h2 => ?_, l2, e1.trans a2⟩
          by_cases e3 : j = i
          · rw [e3]; exact hp
          · exact a1 j (by omega) h2
  exact key (n - a).toNat a l (Int.le_refl _) (by omega)
/-- the first of a kind among 0 .. n - 1, or -1 -/
noncomputable def fstI (P : Int → Prop) (n : Int) : Int := cif (∃ i, 0 ≤ i ∧ i < n ∧ P i ∧ ∀ j, 0 ≤ j → j < i → ¬ P j) (Classical.epsilon (fun i => 0 ≤ i ∧ i < n ∧ P i ∧ ∀ j, 0 ≤ j → j < i → ¬ P j)) (-1)
theorem fstI_eq {P : Int → Prop} {n i : Int} (h1 : 0 ≤ i) (h2 : i < n) (h3 : P i) (h4 : ∀ j, 0 ≤ j → j < i → ¬ P j) : fstI P n = i := by
  have hex : ∃ i, 0 ≤ i ∧ i < n ∧ P i ∧ ∀ j, 0 ≤ j → j < i → ¬ P j := ⟨i, h1, h2, h3, h4⟩
  unfold fstI
  rw [cif_pos hex]
  obtain ⟨a1, a2, a3, a4⟩ := Classical.epsilon_spec hex
  rcases Int.lt_trichotomy (Classical.epsilon (fun i => 0 ≤ i ∧ i < n ∧ P i ∧ ∀ j, 0 ≤ j → j < i → ¬ P j)) i with e | e | e
  · exact absurd a3 (h4 _ a1 e)
  · exact e
  · exact absurd h3 (a4 _ h1 e)
theorem fstI_no {P : Int → Prop} {n : Int} (h : ∀ j, 0 ≤ j → j < n → ¬ P j) : fstI P n = -1 := by
  unfold fstI
  exact cif_neg (fun ⟨i, h1, h2, h3, _⟩ => h i h1 h2 h3)
theorem fstI_cases (P : Int → Prop) (n : Int) : (0 ≤ fstI P n ∧ fstI P n < n ∧ P (fstI P n) ∧ ∀ j, 0 ≤ j → j < fstI P n → ¬ P j) ∨ (fstI P n = -1 ∧ ∀ j, 0 ≤ j → j < n → ¬ P j) := by
  by_cases hex : ∃ i, 0 ≤ i ∧ i < n ∧ P i
  · left
    obtain ⟨i, h1, h2, h3⟩ := hex
    have key : ∀ (k : Nat) (i : Int), i.toNat ≤ k → 0 ≤ i → i < n → P i → ∃ i', 0 ≤ i' ∧ i' < n ∧ P i' ∧ ∀ j, 0 ≤ j → j < i' → ¬ P j := by
      intro k
      induction k with
      | zero => intro i a1 a2 a3 a4; exact ⟨i, a2, a3, a4, fun j b1 b2 => by omega⟩
      | succ k ih =>
        intro i a1 a2 a3 a4
        by_cases hx : ∃ j, 0 ≤ j ∧ j < i ∧ P j
        · obtain ⟨j, b1, b2, b3⟩ := hx
          exact ih j (by omega) b1 (by omega) b3
        · exact ⟨i, a2, a3, a4, fun j b1 b2 b3 => hx ⟨j, b1, b2, b3⟩⟩
    obtain ⟨i', c1, c2, c3, c4⟩ := key i.toNat i (Nat.le_refl _) h1 h2 h3
    rw [fstI_eq c1 c2 c3 c4]
    exact ⟨c1, c2, c3, c4⟩
  · right
    exact ⟨fstI_no (fun j h1 h2 h3 => hex ⟨j, h1, h2, h3⟩), fun j h1 h2 h3 => hex ⟨j, h1, h2, h3⟩⟩
theorem fstI_congr {P Q : Int → Prop} {n : Int} (h : ∀ j, 0 ≤ j → j < n → (P j ↔ Q j)) : fstI P n = fstI Q n := by
  rcases fstI_cases Q n with ⟨h1, h2, h3, h4⟩ | ⟨h1, h2⟩
  · exact fstI_eq h1 h2 ((h _ h1 h2).mpr h3) (fun j a1 a2 a3 => h4 j a1 a2 ((h j a1 (by omega)).mp a3))
  · rw [h1]
    exact fstI_no (fun j a1 a2 a3 => h2 j a1 a2 ((h j a1 a2).mp a3))
noncomputable def cntN (P : Int → Prop) : Nat → Int
  | 0 => 0
  | k + 1 => cntN P k + b2i (P k)
/-- how many of 0 .. n - 1 are of a kind -/
noncomputable def cntI (P : Int → Prop) (n : Int) : Int := cntN P n.toNat
theorem cntI_0 (P : Int → Prop) : cntI P 0 = 0 := rfl
theorem cntI_succ (P : Int → Prop) {n : Int} (h : 0 ≤ n) : cntI P (n + 1) = cntI P n + b2i (P n) := by
  obtain ⟨k, rfl⟩ : ∃ k : Nat, n = k := ⟨n.toNat, by omega⟩
  rfl
theorem cntI_b (P : Int → Prop) {n : Int} (h : 0 ≤ n) : 0 ≤ cntI P n ∧ cntI P n ≤ n := by
  obtain ⟨k, rfl⟩ : ∃ k : Nat, n = k := ⟨n.toNat, by omega⟩
  show 0 ≤ cntN P k ∧ cntN P k ≤ k
  clear h
  induction k with
  | zero => exact ⟨Int.le_refl _, Int.le_refl _⟩
  | succ k ih =>
    have := b2i_01 (P k)
    show 0 ≤ cntN P k + b2i (P k) ∧ cntN P k + b2i (P k) ≤ ((k + 1 : Nat) : Int)
    omega
theorem cntI_congr {P Q : Int → Prop} {n : Int} (h : ∀ j, 0 ≤ j → j < n → (P j ↔ Q j)) : cntI P n = cntI Q n := by
  unfold cntI
  have key : ∀ k : Nat, (k : Int) ≤ n ∨ k ≤ n.toNat → cntN P k = cntN Q k := by
    intro k
    induction k with
    | zero => intro _; rfl
    | succ k ih =>
      intro hk
      show cntN P k + b2i (P k) = cntN Q k + b2i (Q k)
      rw [ih (by omega), b2i_iff (h k (by omega) (by omega))]
  exact key _ (Or.inr (Nat.le_refl _))
def sumN (f : Int → Int) : Nat → Int
  | 0 => 0
  | k + 1 => sumN f k + f k
def sumI (f : Int → Int) (n : Int) : Int := sumN f n.toNat
theorem sumI_0 (f : Int → Int) : sumI f 0 = 0 := rfl
theorem sumI_succ (f : Int → Int) {n : Int} (h : 0 ≤ n) : sumI f (n + 1) = sumI f n + f n := by
  obtain ⟨k, rfl⟩ : ∃ k : Nat, n = k := ⟨n.toNat, by omega⟩
  rfl
theorem sumI_congr {f g : Int → Int} {n : Int} (h : ∀ j, 0 ≤ j → j < n → f j = g j) : sumI f n = sumI g n := by
  unfold sumI
  have key : ∀ k : Nat, k ≤ n.toNat → sumN f k = sumN g k := by
    intro k
    induction k with
    | zero => intro _; rfl
    | succ k ih =>
      intro hk
      show sumN f k + f k = sumN g k + g k
      rw [ih (by omega), h k (by omega) (by omega)]
  exact key _ (Nat.le_refl _)
theorem sumI_b {f : Int → Int} {n c : Int} (hn : 0 ≤ n) (h : ∀ j, 0 ≤ j → j < n → 0 ≤ f j ∧ f j ≤ c) : 0 ≤ sumI f n ∧ sumI f n ≤ c * n := by
  obtain ⟨k, rfl⟩ : ∃ k : Nat, n = k := ⟨n.toNat, by omega⟩
  show 0 ≤ sumN f k ∧ sumN f k ≤ c * k
  clear hn
  induction k with
  | zero => exact ⟨Int.le_refl _, by show (0 : Int) ≤ c * ((0 : Nat) : Int); rw [show ((0 : Nat) : Int) = 0 from rfl, Int.mul_zero]; exact Int.le_refl _⟩
  | succ k ih =>
    have h1 := ih (fun j a b => h j a (by omega))
    have h2 := h k (by omega) (by omega)
    show 0 ≤ sumN f k + f k ∧ sumN f k + f k ≤ c * ((k + 1 : Nat) : Int)
    rw [show ((k + 1 : Nat) : Int) = (k : Int) + 1 from rfl, Int.mul_add, Int.mul_one]
    omega
/-- the height of a tower's eye; who sees whom; who sees what; how long a signal goes -/
def eyeV (g p h : Int → Int) (t : Int) : Int := g (p t) + h t
def seeT (g p h : Int → Int) (a b : Int) : Prop := ¬ a = b ∧ clear g (p a) (eyeV g p h a) (p b) (eyeV g p h b)
def seeP (g p h : Int → Int) (t x : Int) : Prop := clear g (p t) (eyeV g p h t) x (g x)
def delT (p : Int → Int) (w a b : Int) : Int := max (if p b - p a ≤ 0 then w - (p b - p a) else p b - p a - w) 1
theorem eyeV_b {V : VV} (rk : rowok V) {t : Int} (h : 0 ≤ t ∧ t < 8) : 0 ≤ eyeV (V 3 0) (V 4 0) (V 5 0) t ∧ eyeV (V 3 0) (V 4 0) (V 5 0) t ≤ 18 := by
  have h1 := rk_4 rk h
  have h2 := rk_3 rk (j := V 4 0 t) (by omega)
  have h3 := rk_5 rk h
  show 0 ≤ V 3 0 (V 4 0 t) + V 5 0 t ∧ V 3 0 (V 4 0 t) + V 5 0 t ≤ 18
  omega
theorem delT_b {V : VV} (rk : rowok V) {a b : Int} (h : 0 ≤ a ∧ a < 8) (h2 : 0 ≤ b ∧ b < 8) : 1 ≤ delT (V 4 0) (V 2 0 9) a b ∧ delT (V 4 0) (V 2 0 9) a b ≤ 40 := by
  have h1 := rk_4 rk h
  have h3 := rk_4 rk h2
  have h4 := rk_w rk
  unfold delT
  split <;> omega
theorem s_18 {d : Nat} {q : QQ} {V : VV} {x1 : Int} (rk : rowok V) (p2 : 0 ≤ x1 ∧ x1 < 8) : RUN d 18 (am_en 18 [aR 2 0, aI (iI x1)]) (HM q V) = rI (eyeV (V 3 0) (V 4 0) (V 5 0) x1) (HM q V) := e_18 rk p2
theorem s_29 {d : Nat} {q : QQ} {V : VV} {x1 x2 : Int} (rk : rowok V) (p2 : 0 ≤ x1 ∧ x1 < 8) (p3 : 0 ≤ x2 ∧ x2 < 8) : RUN d 29 (am_en 29 [aR 15 0, aI (iI x1), aI (iI x2)]) (HM q V) = rI (delT (V 4 0) (V 2 0 9) x1 x2) (HM q V) := by
  rw [e_29 rk p2 p3]
  unfold delT
  refine cif_eq (fun c => ?_) (fun c => ?_)
  · rw [if_pos c]
  · rw [if_neg c]
