/-! the model finds the fastest relays: better and better, till nothing is better -/
/-- the two rows of the model's relays -/
def rv (V : VV) (f g : Int → Int) : VV := setA (setA V 38 0 f) 39 0 g
theorem setA_eq {V : VV} {A : Nat} {f : Int → Int} (h : V A 0 = f) : setA V A 0 f = V := by
  subst h
  exact setA_self
theorem rv_self {V : VV} : rv V (V 38 0) (V 39 0) = V := by
  unfold rv
  rw [setA_self]
  exact setA_self
theorem rv_up {V : VV} {f g : Int → Int} {i a b : Int} : upV (upV (rv V f g) 38 0 i a) 39 0 i b = rv V (setF f i a) (setF g i b) := by
  funext A B j
  unfold upV rv setA setF
  cases h : Nat.beq A 39 with
  | false =>
    cases h2 : Nat.beq A 38 with
    | false => rfl
    | true =>
      cases h3 : Nat.beq B 0 with
      | false => rfl
      | true => rfl
  | true =>
    have e := Nat.eq_of_beq_eq_true h
    subst e
    cases h3 : Nat.beq B 0 with
    | false => rfl
    | true => rfl
theorem setF_id {f : Int → Int} {i : Int} : setF f i (f i) = f := by
  funext j
  unfold setF
  by_cases h : j = i
  · rw [if_pos h, h]
  · rw [if_neg h]
/-- what holds of the rows while they are made better -/
def bfI (n : Int) (e : Int → Int → Prop) (w : Int → Int → Int) (last : Int) (f g : Int → Int) : Prop :=
  (f last = 0 ∧ g last = 0) ∧ ∀ t, 0 ≤ t ∧ t < n → ((f t = 100000 ∧ g t = 0) ∨ (0 ≤ f t ∧ f t ≤ 40 * g t ∧ (∃ P : Int → Prop, P t ∧ (∀ u, P u → (0 ≤ u ∧ u < n) ∧ (u = t ∨ f u < f t)) ∧ cntI P n = g t + 1) ∧ (¬ t = last → ∃ u, (0 ≤ u ∧ u < n) ∧ e t u ∧ f u < 100000 ∧ lexle (f u + w t u) (g u + 1) (f t) (g t))))
theorem bfI_b {n : Int} {e : Int → Int → Prop} {w : Int → Int → Int} {last : Int} {f g : Int → Int} (hn : 0 ≤ n ∧ n ≤ 8) (h : bfI n e w last f g) {t : Int} (ht : 0 ≤ t ∧ t < n) : (f t = 100000 ∧ g t = 0) ∨ (0 ≤ f t ∧ f t ≤ 280 ∧ 0 ≤ g t ∧ g t ≤ 7) := by
  rcases h.2 t ht with a | ⟨a1, a2, ⟨P, p1, p2, p3⟩, -⟩
  · exact Or.inl a
  · have := cntI_b P hn.1
    omega
/-- the edge from i to j makes i better -/
def bett (e : Int → Int → Prop) (w : Int → Int → Int) (f g : Int → Int) (i j : Int) : Prop := f j < 100000 ∧ e i j ∧ (f j + w i j < f i ∨ (f j + w i j = f i ∧ g j + 1 < g i))
def muF (f g : Int → Int) (n : Int) : Int := sumI (fun t => f t * 16 + g t) n
theorem sumI_set {f g : Int → Int} {n i : Int} (hi : 0 ≤ i ∧ i < n) (h : ∀ j, 0 ≤ j → j < n → ¬ j = i → f j = g j) : sumI f n - f i = sumI g n - g i := by
  obtain ⟨k, rfl⟩ : ∃ k : Nat, n = k := ⟨n.toNat, by omega⟩
  show sumN f k - f i = sumN g k - g i
  induction k with
  | zero => omega
  | succ k ih =>
    show sumN f k + f k - f i = sumN g k + g k - g i
    by_cases c : i = k
    · have e : sumN f k = sumN g k := by
        have : sumI f (k : Int) = sumI g (k : Int) := sumI_congr fun j a b => h j a (by omega) (by omega)
        exact this
      rw [e, c]
      omega
    · have := ih (by omega) (fun j a b => h j a (by omega))
      have := h k (by omega) (by omega) (fun z => c z.symm)
      omega
theorem bfI_up {n : Int} {e : Int → Int → Prop} {w : Int → Int → Int} {last : Int} {f g : Int → Int} (hn : 0 ≤ n ∧ n ≤ 8) (hw : ∀ t u, 0 ≤ t ∧ t < n → 0 ≤ u ∧ u < n → 1 ≤ w t u ∧ w t u ≤ 40) (h : bfI n e w last f g) {i j : Int} (hi : 0 ≤ i ∧ i < n) (hj : 0 ≤ j ∧ j < n) (hl : 0 ≤ last ∧ last < n) (b : bett e w f g i j) :
    bfI n e w last (setF f i (f j + w i j)) (setF g i (g j + 1)) ∧ muF (setF f i (f j + w i j)) (setF g i (g j + 1)) n < muF f g n := by
  obtain ⟨b1, b2, b3⟩ := b
  have w1 := hw i j hi hj
  have fi := bfI_b hn h hi
  have fj := bfI_b hn h hj
  have nl : ¬ i = last := fun z => by
    have e1 : f i = 0 := by rw [z]; exact h.1.1
    have e2 : g i = 0 := by rw [z]; exact h.1.2
    omega
  have nij : ¬ j = i := fun z => by
    have e1 : f j = f i := by rw [z]
    have e2 : g j = g i := by rw [z]
    omega
  have eS : ∀ u, ¬ u = i → setF f i (f j + w i j) u = f u ∧ setF g i (g j + 1) u = g u := fun u hu => ⟨setF_ne hu, setF_ne hu⟩
  have eI : setF f i (f j + w i j) i = f j + w i j ∧ setF g i (g j + 1) i = g j + 1 := ⟨setF_same, setF_same⟩
  have dec : ∀ u, setF f i (f j + w i j) u ≤ f u := fun u => by
    by_cases c : u = i
    · rw [c, eI.1]
      omega
    · rw [(eS u c).1]
      exact Int.le_refl _
  refine ⟨⟨⟨?_, ?_⟩, fun t ht => ?_⟩, ?_⟩
  · rw [(eS last (fun z => nl z.symm)).1]; exact h.1.1
  · rw [(eS last (fun z => nl z.symm)).2]; exact h.1.2
  · by_cases c : t = i
    · subst c
      rw [eI.1, eI.2]
      right
      rcases h.2 j hj with a | ⟨a1, a2, ⟨P, p1, p2, p3⟩, -⟩
      · omega
      · have nt : ¬ P t := fun z => by
          have := (p2 t z).2
          omega
        refine ⟨by omega, by omega, ⟨fun u => P u ∨ u = t, Or.inr rfl, fun u hu => ?_, ?_⟩, fun _ => ⟨j, hj, b2, ?_, ?_⟩⟩
        · by_cases c2 : u = t
          · subst c2
            exact ⟨ht, Or.inl rfl⟩
          · have hP : P u := hu.resolve_right c2
            obtain ⟨q1, q2⟩ := p2 u hP
            refine ⟨q1, Or.inr ?_⟩
            rw [(eS u c2).1]
            rcases q2 with q2 | q2
            · rw [q2]; omega
            · omega
        · have k1 := cntI_del (P := fun u => P u ∨ u = t) ht.1 ht.2 (Or.inr rfl)
          have k2 : cntI (fun u => (P u ∨ u = t) ∧ ¬ u = t) n = cntI P n := cntI_congr fun u _ _ => ⟨fun z => z.1.resolve_right z.2, fun z => ⟨Or.inl z, fun y => nt (by rw [← y]; exact z)⟩⟩
          omega
        · rw [(eS j nij).1]; exact b1
        · rw [(eS j nij).1, (eS j nij).2]
          unfold lexle
          omega
    · rw [(eS t c).1, (eS t c).2]
      rcases h.2 t ht with a | ⟨a1, a2, ⟨P, p1, p2, p3⟩, a4⟩
      · exact Or.inl a
      · refine Or.inr ⟨a1, a2, ⟨P, p1, fun u hu => ?_, p3⟩, fun z => ?_⟩
        · obtain ⟨q1, q2⟩ := p2 u hu
          refine ⟨q1, ?_⟩
          rcases q2 with q2 | q2
          · exact Or.inl q2
          · have := dec u
            exact Or.inr (by omega)
        · obtain ⟨u, hu, q1, q2, q3⟩ := a4 z
          have d := dec u
          refine ⟨u, hu, q1, by omega, ?_⟩
          by_cases c2 : u = i
          · subst c2
            rw [eI.1, eI.2]
            unfold lexle at q3 ⊢
            omega
          · rw [(eS u c2).1, (eS u c2).2]
            exact q3
  · have k := sumI_set (f := fun t => setF f i (f j + w i j) t * 16 + setF g i (g j + 1) t) (g := fun t => f t * 16 + g t) hi (fun u _ _ hu => by
      show setF f i (f j + w i j) u * 16 + setF g i (g j + 1) u = f u * 16 + g u
      rw [(eS u hu).1, (eS u hu).2])
    have k : sumI (fun t => setF f i (f j + w i j) t * 16 + setF g i (g j + 1) t) n - (setF f i (f j + w i j) i * 16 + setF g i (g j + 1) i) = sumI (fun t => f t * 16 + g t) n - (f i * 16 + g i) := k
    rw [eI.1, eI.2] at k
    show sumI (fun t => setF f i (f j + w i j) t * 16 + setF g i (g j + 1) t) n < sumI (fun t => f t * 16 + g t) n
    omega
theorem muF_nn {n : Int} {e : Int → Int → Prop} {w : Int → Int → Int} {last : Int} {f g : Int → Int} (hn : 0 ≤ n ∧ n ≤ 8) (h : bfI n e w last f g) : 0 ≤ muF f g n := by
  refine (sumI_b (c := 2000000) hn.1 fun j a b => ?_).1
  have := bfI_b hn h ⟨a, b⟩
  omega
theorem bfI_sp {n : Int} {e : Int → Int → Prop} {w : Int → Int → Int} {last : Int} {f g : Int → Int} (hn : 0 ≤ n ∧ n ≤ 8) (hl : 0 ≤ last ∧ last < n) (hw : ∀ t u, 0 ≤ t ∧ t < n → 0 ≤ u ∧ u < n → 1 ≤ w t u ∧ w t u ≤ 40) (h : bfI n e w last f g) (hf : ∀ i j, 0 ≤ i ∧ i < n → 0 ≤ j ∧ j < n → ¬ bett e w f g i j) :
    isSP n e w last (fun t => f t < 100000) f g := by
  refine ⟨⟨(by show f last < 100000; rw [h.1.1]; decide), h.1.1, h.1.2⟩, fun t ht hne hR => ?_, fun t u ht hu he hR => ?_, fun t ht hR => ?_⟩
  · have hR : f t < 100000 := hR
    rcases h.2 t ht with a | ⟨a1, a2, a3, a4⟩
    · omega
    · obtain ⟨u, hu, q1, q2, q3⟩ := a4 hne
      have nb := hf t u ht hu
      refine ⟨u, hu, q1, q2, ?_, ?_⟩
      · unfold lexle at q3
        have : ¬ f u + w t u < f t := fun z => nb ⟨q2, q1, Or.inl z⟩
        omega
      · unfold lexle at q3
        have n1 : ¬ f u + w t u < f t := fun z => nb ⟨q2, q1, Or.inl z⟩
        have n2 : ¬ (f u + w t u = f t ∧ g u + 1 < g t) := fun z => nb ⟨q2, q1, Or.inr z⟩
        omega
  · have hR : f u < 100000 := hR
    have nb := hf t u ht hu
    have n1 : ¬ f u + w t u < f t := fun z => nb ⟨hR, he, Or.inl z⟩
    have n2 : ¬ (f u + w t u = f t ∧ g u + 1 < g t) := fun z => nb ⟨hR, he, Or.inr z⟩
    have fu := bfI_b hn h hu
    have w1 := hw t u ht hu
    refine ⟨?_, ?_⟩
    · show f t < 100000
      omega
    · unfold lexle
      omega
  · have := bfI_b hn h ht
    omega
/-- the rows say what the fastest relays to last are -/
def SPF (n : Int) (e : Int → Int → Prop) (w : Int → Int → Int) (last : Int) (f g : Int → Int) : Prop :=
  ∀ t, 0 ≤ t ∧ t < n → (spR n e w last t ∧ f t = spD n e w last t ∧ g t = spN n e w last t ∧ 0 ≤ f t ∧ f t ≤ 280 ∧ 0 ≤ g t ∧ g t ≤ 7) ∨ (¬ spR n e w last t ∧ f t = 100000 ∧ g t = 0)
theorem bfI_SPF {n : Int} {e : Int → Int → Prop} {w : Int → Int → Int} {last : Int} {f g : Int → Int} (hn : 0 ≤ n ∧ n ≤ 8) (hl : 0 ≤ last ∧ last < n) (hw : ∀ t u, 0 ≤ t ∧ t < n → 0 ≤ u ∧ u < n → 1 ≤ w t u ∧ w t u ≤ 40) (h : bfI n e w last f g) (hf : ∀ i j, 0 ≤ i ∧ i < n → 0 ≤ j ∧ j < n → ¬ bett e w f g i j) : SPF n e w last f g := by
  intro t ht
  obtain ⟨s1, s2⟩ := spSol_eq (fun t u ht hu _ => (hw t u ht hu).1) (bfI_sp hn hl hw h hf) ht
  have b := bfI_b hn h ht
  by_cases c : f t < 100000
  · obtain ⟨s3, s4⟩ := s2 c
    exact Or.inl ⟨s1.mp c, s3, s4, by omega, by omega, by omega, by omega⟩
  · exact Or.inr ⟨fun z => c (s1.mpr z), by omega, by omega⟩
/-- the rows at the start -/
theorem bfI_0 {n : Int} {e : Int → Int → Prop} {w : Int → Int → Int} {last : Int} {f g : Int → Int} (hl : 0 ≤ last ∧ last < n) (hf : ∀ t, 0 ≤ t ∧ t < n → f t = (if t = last then 0 else 100000) ∧ g t = 0) : bfI n e w last f g := by
  obtain ⟨l1, l2⟩ := hf last hl
  rw [if_pos rfl] at l1
  refine ⟨⟨l1, l2⟩, fun t ht => ?_⟩
  obtain ⟨f1, f2⟩ := hf t ht
  by_cases c : t = last
  · rw [if_pos c] at f1
    refine Or.inr ⟨by omega, by omega, ⟨fun u => u = t, rfl, fun u hu => by rw [hu]; exact ⟨ht, Or.inl rfl⟩, ?_⟩, fun z => absurd c z⟩
    have k1 := cntI_del (P := fun u => u = t) ht.1 ht.2 rfl
    have k2 : cntI (fun u => u = t ∧ ¬ u = t) n = cntI (fun _ => False) n := cntI_congr fun u _ _ => ⟨fun z => z.2 z.1, fun z => absurd z id⟩
    have k3 : cntI (fun _ => False) n = 0 := cntI_cut (n := 0) (P := fun _ => False) (Int.le_refl _) (by omega) (fun _ _ _ z => z)
    omega
  · rw [if_neg c] at f1
    exact Or.inl ⟨f1, f2⟩
