/-! each rank is some tower's -/
section
variable {g p h : Int → Int}
theorem ah_irr {t : Int} : ¬ aheadT g p h t t := by
  unfold aheadT
  omega
theorem ah_trans {t u o : Int} (h1 : aheadT g p h t u) (h2 : aheadT g p h u o) : aheadT g p h t o := by
  unfold aheadT at *
  omega
theorem ah_tot {t o : Int} : aheadT g p h t o ∨ o = t ∨ aheadT g p h o t := by
  unfold aheadT
  omega
theorem ah_cnt {n t o : Int} (ho : 0 ≤ o ∧ o < n) (k : aheadT g p h t o) : cntI (aheadT g p h o) n + 1 ≤ cntI (aheadT g p h t) n := by
  have e := cntI_del (P := aheadT g p h t) (n := n) ho.1 ho.2 k
  have m : cntI (aheadT g p h o) n ≤ cntI (fun j => aheadT g p h t j ∧ ¬ j = o) n := cntI_mono fun j _ _ hj => ⟨ah_trans k hj, fun z => ah_irr (z ▸ hj)⟩
  omega
theorem cntI_pos {P : Int → Prop} {n : Int} (h : 0 < cntI P n) : ∃ j, 0 ≤ j ∧ j < n ∧ P j := by
  refine Classical.byContradiction fun hn => ?_
  have e : cntI P n = cntI (fun _ => False) n := cntI_congr fun j h1 h2 => ⟨fun z => hn ⟨j, h1, h2, z⟩, fun z => z.elim⟩
  have e2 : ∀ k : Nat, cntN (fun _ => False) k = 0 := by
    intro k
    induction k with
    | zero => rfl
    | succ k ih =>
      show cntN (fun _ => False) k + b2i False = 0
      rw [ih, b2i_neg id]
      rfl
  have e3 : cntI (fun _ => False) n = 0 := e2 _
  omega
theorem cntI_le {P : Int → Prop} {n : Int} (hn : 0 ≤ n) : cntI P n ≤ n := (cntI_b P hn).2
/-- the last of those that stand together at the head -/
theorem rank_last {n : Int} (hn : 0 ≤ n) {P : Int → Prop} (dc : ∀ o o', P o → aheadT g p h o o' → P o') (h0 : 0 < cntI P n) : ∃ u, 0 ≤ u ∧ u < n ∧ P u ∧ cntI P n = cntI (aheadT g p h u) n + 1 := by
  -- one with the greatest count
  have mx : ∀ k : Nat, ∀ u, 0 ≤ u ∧ u < n → P u → n - cntI (aheadT g p h u) n ≤ k → ∃ v, (0 ≤ v ∧ v < n) ∧ P v ∧ ∀ w, 0 ≤ w ∧ w < n → P w → cntI (aheadT g p h w) n ≤ cntI (aheadT g p h v) n := by
    intro k
    induction k with
    | zero =>
      intro u hu pu hk
      refine ⟨u, hu, pu, fun w _ _ => ?_⟩
      have := cntI_le (P := aheadT g p h w) hn
      omega
    | succ k ih =>
      intro u hu pu hk
      by_cases c : ∃ w, (0 ≤ w ∧ w < n) ∧ P w ∧ cntI (aheadT g p h u) n < cntI (aheadT g p h w) n
      · obtain ⟨w, hw, pw, lw⟩ := c
        exact ih w hw pw (by omega)
      · exact ⟨u, hu, pu, fun w hw pw => Int.not_lt.mp fun z => c ⟨w, hw, pw, z⟩⟩
  obtain ⟨j, j1, j2, pj⟩ := cntI_pos h0
  have hb := cntI_b (aheadT g p h j) hn
  obtain ⟨u, hu, pu, hmax⟩ := mx n.toNat j ⟨j1, j2⟩ pj (by omega)
  refine ⟨u, hu.1, hu.2, pu, ?_⟩
  have e := cntI_del (P := P) (n := n) hu.1 hu.2 pu
  have e2 : cntI (fun j => P j ∧ ¬ j = u) n = cntI (aheadT g p h u) n := by
    refine cntI_congr fun o o1 o2 => ⟨fun ⟨a, b⟩ => ?_, fun k => ⟨dc u o pu k, fun z => ah_irr (z ▸ k)⟩⟩
    rcases ah_tot (g := g) (p := p) (h := h) (t := u) (o := o) with k | k | k
    · exact k
    · exact absurd k b
    · have := ah_cnt (n := n) hu k
      have := hmax o ⟨o1, o2⟩ a
      omega
  omega
theorem rank_ex {n : Int} (hn : 0 ≤ n) : ∀ (k : Nat) (r : Int) (P : Int → Prop), 0 ≤ r → (∀ o o', P o → aheadT g p h o o' → P o') → cntI P n = r + 1 + k → ∃ u, 0 ≤ u ∧ u < n ∧ cntI (aheadT g p h u) n = r := by
  intro k
  induction k with
  | zero =>
    intro r P hr dc e
    obtain ⟨u, u1, u2, _, u3⟩ := rank_last hn dc (by omega)
    exact ⟨u, u1, u2, by omega⟩
  | succ k ih =>
    intro r P hr dc e
    obtain ⟨u, u1, u2, _, u3⟩ := rank_last hn dc (by omega)
    exact ih r (aheadT g p h u) hr (fun o o' a b => ah_trans a b) (by omega)
theorem rank_is {n r : Int} (hr : 0 ≤ r ∧ r < n) : ∃ u, 0 ≤ u ∧ u < n ∧ cntI (aheadT g p h u) n = r := by
  have e := cntI_true (P := fun _ => True) (n := n) (by omega) (fun _ _ _ => trivial)
  exact rank_ex (by omega) (n - r - 1).toNat r (fun _ => True) hr.1 (fun _ _ _ _ => trivial) (by omega)
theorem rank_lt {n t : Int} (ht : 0 ≤ t ∧ t < n) : cntI (aheadT g p h t) n < n := by
  have e := cntI_true (P := fun _ => True) (n := n) (by omega) (fun _ _ _ => trivial)
  have d := cntI_del (P := fun _ => True) (n := n) ht.1 ht.2 trivial
  have m : cntI (aheadT g p h t) n ≤ cntI (fun j => True ∧ ¬ j = t) n := cntI_mono fun j _ _ hj => ⟨trivial, fun z => ah_irr (z ▸ hj)⟩
  omega
/-- the tower of a rank -/
noncomputable def rankF (g p h : Int → Int) (n r : Int) : Int := fstI (rankIs g p h n r) n
theorem rankF_in {n r : Int} (hr : 0 ≤ r ∧ r < n) : 0 ≤ rankF g p h n r ∧ rankF g p h n r < n ∧ cntI (aheadT g p h (rankF g p h n r)) n = r := by
  obtain ⟨u, u1, u2, u3⟩ := rank_is (g := g) (p := p) (h := h) hr
  rcases fstI_cases (rankIs g p h n r) n with ⟨a, b, c, _⟩ | ⟨_, b⟩
  · exact ⟨a, b, c⟩
  · exact absurd u3 (b u u1 u2)
theorem rankF_no {n : Int} : rankF g p h n n = -1 := by
  refine fstI_no fun j h1 h2 e => ?_
  have := rank_lt (g := g) (p := p) (h := h) ⟨h1, h2⟩
  have e2 : cntI (aheadT g p h j) n = n := e
  omega
theorem rankF_step {n r : Int} (hr : 1 ≤ r ∧ r < n) : 0 ≤ eyeV g p h (rankF g p h n (r - 1)) - eyeV g p h (rankF g p h n r) ∧ (eyeV g p h (rankF g p h n (r - 1)) - eyeV g p h (rankF g p h n r) = 0 → rankF g p h n (r - 1) ≤ rankF g p h n r) := by
  obtain ⟨a1, a2, a3⟩ := rankF_in (g := g) (p := p) (h := h) (n := n) (r := r - 1) (by omega)
  obtain ⟨b1, b2, b3⟩ := rankF_in (g := g) (p := p) (h := h) (n := n) (r := r) (by omega)
  rcases ah_tot (g := g) (p := p) (h := h) (t := rankF g p h n r) (o := rankF g p h n (r - 1)) with k | k | k
  · unfold aheadT at k
    omega
  · rw [k] at a3
    omega
  · have := ah_cnt (n := n) ⟨b1, b2⟩ k
    omega
end
