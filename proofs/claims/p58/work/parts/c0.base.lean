/-! how a call leaves the law's world: the counts of cells and slots grow, the row of towers stands -/
/-- m cells and s slots at most are new; the cells before n0 are as they were -/
def adv (m s n0 : Nat) (q q' : QQ) : Prop := (q'.1.1 = q.1.1 ∧ q'.1.2.1 = q.1.2.1 ∧ ∀ x, x < n0 → q'.1.2.2 x = q.1.2.2 x) ∧ q'.2.2 = q.2.2 ∧ (q.2.1.1 ≤ q'.2.1.1 ∧ q'.2.1.1 ≤ q.2.1.1 + m) ∧ (q.2.1.2 ≤ q'.2.1.2 ∧ q'.2.1.2 ≤ q.2.1.2 + s)
theorem adv_refl {m s n0 : Nat} (q : QQ) : adv m s n0 q q := ⟨⟨rfl, rfl, fun _ _ => rfl⟩, rfl, ⟨Nat.le_refl _, Nat.le_add_right _ _⟩, Nat.le_refl _, Nat.le_add_right _ _⟩
theorem adv_thr {n0 : Nat} (q : QQ) : adv 1 6 n0 q (thr q) := ⟨⟨rfl, rfl, fun _ _ => rfl⟩, rfl, ⟨Nat.le_add_right _ _, Nat.le_refl _⟩, Nat.le_add_right _ _, Nat.le_refl _⟩
theorem adv.trans {m s m' s' n0 : Nat} {q q' q2 : QQ} (h : adv m s n0 q q') (k : adv m' s' n0 q' q2) : adv (m + m') (s + s') n0 q q2 := by
  obtain ⟨⟨a1, a2, a3⟩, b, ⟨c1, c2⟩, e1, e2⟩ := h
  obtain ⟨⟨a1', a2', a3'⟩, b', ⟨c1', c2'⟩, e1', e2'⟩ := k
  exact ⟨⟨a1'.trans a1, a2'.trans a2, fun x hx => (a3' x hx).trans (a3 x hx)⟩, b'.trans b, ⟨by omega, by omega⟩, by omega, by omega⟩
theorem adv.mono {m s m' s' n0 n1 : Nat} {q q' : QQ} (h : adv m s n0 q q') (hm : m ≤ m') (hs : s ≤ s') (hn : n1 ≤ n0) : adv m' s' n1 q q' :=
  ⟨⟨h.1.1, h.1.2.1, fun x hx => h.1.2.2 x (by omega)⟩, h.2.1, ⟨h.2.2.1.1, by have := h.2.2.1.2; omega⟩, h.2.2.2.1, by have := h.2.2.2.2; omega⟩
theorem adv.qle {m s n0 : Nat} {q q' : QQ} (h : adv m s n0 q q') : qle q q' := ⟨h.2.2.1.1, h.2.2.2.1⟩
/-- what stands of the heap -/
def kp (n0 : Nat) (V W : VV) : Prop := (∀ a, 2 ≤ a → a ≤ 12 → W a = V a) ∧ W 23 = V 23 ∧ (∀ x, x < n0 → W 46 x = V 46 x) ∧ relok W ∧ outok W ∧ inok W
/-- what the law knows of the object -/
def LW (V : VV) : Prop := rowok V ∧ smok V ∧ dist0 V ∧ hisok V ∧ relok V ∧ outok V ∧ inok V
theorem LW.of_kp {n0 : Nat} {V W : VV} (h : LW V) (k : kp n0 V W) : LW W := by
  obtain ⟨h1, h2, h3, h4, h5, h6, h7⟩ := h
  obtain ⟨k1, k2, k3, k4, k5, k6⟩ := k
  refine ⟨?_, ?_, ?_, ?_, k4, k5, k6⟩
  · unfold rowok rowB
    rw [k1 2 (by decide) (by decide), k1 3 (by decide) (by decide), k1 4 (by decide) (by decide), k1 5 (by decide) (by decide), k1 6 (by decide) (by decide), k1 7 (by decide) (by decide), k1 8 (by decide) (by decide), k1 9 (by decide) (by decide), k1 10 (by decide) (by decide)]
    exact h1
  · intro v hv
    rw [k2]
    exact h2 v hv
  · unfold dist0
    rw [k1 2 (by decide) (by decide), k1 4 (by decide) (by decide)]
    exact h3
  · unfold hisok
    rw [k1 11 (by decide) (by decide)]
    exact h4
theorem kp_refl {n0 : Nat} {V : VV} (h : LW V) : kp n0 V V := ⟨fun _ _ _ => rfl, rfl, fun _ _ => rfl, h.2.2.2.2.1, h.2.2.2.2.2.1, h.2.2.2.2.2.2⟩
theorem kp.trans {n0 : Nat} {U V W : VV} (h : kp n0 U V) (k : kp n0 V W) : kp n0 U W :=
  ⟨fun a h1 h2 => (k.1 a h1 h2).trans (h.1 a h1 h2), k.2.1.trans h.2.1, fun x hx => (k.2.2.1 x hx).trans (h.2.2.1 x hx), k.2.2.2⟩
theorem kp.mono {n0 n1 : Nat} {V W : VV} (h : kp n0 V W) (hn : n1 ≤ n0) : kp n1 V W := ⟨h.1, h.2.1, fun x hx => h.2.2.1 x (by omega), h.2.2.2⟩
theorem rows_all {P : Nat → Prop} (h : P 2 ∧ P 3 ∧ P 4 ∧ P 5 ∧ P 6 ∧ P 7 ∧ P 8 ∧ P 9 ∧ P 10 ∧ P 11 ∧ P 12) : ∀ a, 2 ≤ a → a ≤ 12 → P a := by
  obtain ⟨h2, h3, h4, h5, h6, h7, h8, h9, h10, h11, h12⟩ := h
  intro a a1 a2
  by_cases c : a = 2
  · subst c; exact h2
  by_cases c : a = 3
  · subst c; exact h3
  by_cases c : a = 4
  · subst c; exact h4
  by_cases c : a = 5
  · subst c; exact h5
  by_cases c : a = 6
  · subst c; exact h6
  by_cases c : a = 7
  · subst c; exact h7
  by_cases c : a = 8
  · subst c; exact h8
  by_cases c : a = 9
  · subst c; exact h9
  by_cases c : a = 10
  · subst c; exact h10
  by_cases c : a = 11
  · subst c; exact h11
  have e : a = 12 := by omega
  subst e
  exact h12
/-- nothing but what lies between the rows and the later cells was written -/
def offS (V W : VV) : Prop := ∀ a b, (a = 1 ∨ (2 ≤ a ∧ a ≤ 12) ∨ a = 23 ∨ (27 ≤ a ∧ a ≤ 32) ∨ a = 46) → W a b = V a b
theorem kp_off {n0 : Nat} {V W : VV} (h : LW V) (o : offS V W) (rl : relok W) : kp n0 V W := by
  refine ⟨fun a h1 h2 => funext fun b => o a b (by omega), funext fun b => o 23 b (by omega), fun x _ => o 46 x (by omega), rl, ?_, ?_⟩
  · unfold outok
    rw [o 31 0 (by omega)]
    exact h.2.2.2.2.2.1
  · unfold inok
    rw [o 27 0 (by omega), o 28 0 (by omega)]
    exact h.2.2.2.2.2.2
theorem cases_off {P : Nat → Prop} (h : P 1 ∧ P 2 ∧ P 3 ∧ P 4 ∧ P 5 ∧ P 6 ∧ P 7 ∧ P 8 ∧ P 9 ∧ P 10 ∧ P 11 ∧ P 12 ∧ P 23 ∧ P 27 ∧ P 28 ∧ P 29 ∧ P 30 ∧ P 31 ∧ P 32 ∧ P 46) : ∀ a, (a = 1 ∨ (2 ≤ a ∧ a ≤ 12) ∨ a = 23 ∨ (27 ≤ a ∧ a ≤ 32) ∨ a = 46) → P a := by
  obtain ⟨h1, h2, h3, h4, h5, h6, h7, h8, h9, h10, h11, h12, h23, h27, h28, h29, h30, h31, h32, h46⟩ := h
  intro a ha
  by_cases c : a = 1
  · subst c; exact h1
  by_cases c2 : 2 ≤ a ∧ a ≤ 12
  · exact rows_all ⟨h2, h3, h4, h5, h6, h7, h8, h9, h10, h11, h12⟩ a c2.1 c2.2
  by_cases c : a = 23
  · subst c; exact h23
  by_cases c : a = 27
  · subst c; exact h27
  by_cases c : a = 28
  · subst c; exact h28
  by_cases c : a = 29
  · subst c; exact h29
  by_cases c : a = 30
  · subst c; exact h30
  by_cases c : a = 31
  · subst c; exact h31
  by_cases c : a = 32
  · subst c; exact h32
  have e : a = 46 := by omega
  subst e
  exact h46
/-- a function of heaps that leaves these cells alone, as it is written -/
theorem offS_of {V W : VV} (h : ∀ b, W 1 b = V 1 b ∧ W 2 b = V 2 b ∧ W 3 b = V 3 b ∧ W 4 b = V 4 b ∧ W 5 b = V 5 b ∧ W 6 b = V 6 b ∧ W 7 b = V 7 b ∧ W 8 b = V 8 b ∧ W 9 b = V 9 b ∧ W 10 b = V 10 b ∧ W 11 b = V 11 b ∧ W 12 b = V 12 b ∧ W 23 b = V 23 b ∧ W 27 b = V 27 b ∧ W 28 b = V 28 b ∧ W 29 b = V 29 b ∧ W 30 b = V 30 b ∧ W 31 b = V 31 b ∧ W 32 b = V 32 b ∧ W 46 b = V 46 b) : offS V W :=
  fun a b ha => cases_off (P := fun a => W a b = V a b) (h b) a ha
theorem offS.trans {U V W : VV} (h : offS U V) (k : offS V W) : offS U W := fun a b z => (k a b z).trans (h a b z)
