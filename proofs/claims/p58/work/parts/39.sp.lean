/-! fastest relays: what they are; costs settled nearest first -/
def lexle (a b c e : Int) : Prop := a < c ∨ (a = c ∧ b ≤ e)
/-- R: there is a relay; D, N: its delay, its steps -/
def isSP (n : Int) (e : Int → Int → Prop) (w : Int → Int → Int) (last : Int) (R : Int → Prop) (D N : Int → Int) : Prop :=
  (R last ∧ D last = 0 ∧ N last = 0) ∧ (∀ t, 0 ≤ t ∧ t < n → ¬ t = last → R t → ∃ u, (0 ≤ u ∧ u < n) ∧ e t u ∧ R u ∧ D t = w t u + D u ∧ N t = N u + 1) ∧
  (∀ t u, 0 ≤ t ∧ t < n → 0 ≤ u ∧ u < n → e t u → R u → R t ∧ lexle (D t) (N t) (w t u + D u) (N u + 1)) ∧ (∀ t, 0 ≤ t ∧ t < n → R t → 0 ≤ D t)
theorem isSP_le {n : Int} {e : Int → Int → Prop} {w : Int → Int → Int} {last : Int} {R R' : Int → Prop} {D N D' N' : Int → Int} (hw : ∀ t u, 0 ≤ t ∧ t < n → 0 ≤ u ∧ u < n → e t u → 1 ≤ w t u) (h : isSP n e w last R D N) (h' : isSP n e w last R' D' N') :
    ∀ (k : Nat) (t : Int), 0 ≤ t ∧ t < n → R t → D t ≤ k → R' t ∧ lexle (D' t) (N' t) (D t) (N t) := by
  obtain ⟨⟨a1, a2, a3⟩, b, c, f⟩ := h
  obtain ⟨⟨a1', a2', a3'⟩, b', c', f'⟩ := h'
  intro k
  induction k using Nat.strongRecOn with
  | ind k ih =>
    intro t ht hR hk
    by_cases hl : t = last
    · subst hl
      exact ⟨a1', Or.inr ⟨by omega, by omega⟩⟩
    · obtain ⟨u, hu, he, hRu, hD, hN⟩ := b t ht hl hR
      have h1 := hw t u ht hu he
      have h0 := f u hu hRu
      obtain ⟨g1, g2⟩ := ih (D u).toNat (by omega) u hu hRu (by omega)
      obtain ⟨g3, g4⟩ := c' t u ht hu he g1
      refine ⟨g3, ?_⟩
      unfold lexle at g2 g4 ⊢
      omega
theorem isSP_one {n : Int} {e : Int → Int → Prop} {w : Int → Int → Int} {last : Int} {R R' : Int → Prop} {D N D' N' : Int → Int} (hw : ∀ t u, 0 ≤ t ∧ t < n → 0 ≤ u ∧ u < n → e t u → 1 ≤ w t u) (h : isSP n e w last R D N) (h' : isSP n e w last R' D' N') {t : Int} (ht : 0 ≤ t ∧ t < n) :
    (R t ↔ R' t) ∧ (R t → D t = D' t ∧ N t = N' t) := by
  have key : R t → R' t ∧ D t = D' t ∧ N t = N' t := by
    intro hR
    have h0 := h.2.2.2 t ht hR
    obtain ⟨g1, g2⟩ := isSP_le hw h h' (D t).toNat t ht hR (by omega)
    have h0' := h'.2.2.2 t ht g1
    obtain ⟨g3, g4⟩ := isSP_le hw h' h (D' t).toNat t ht g1 (by omega)
    unfold lexle at g2 g4
    exact ⟨g1, by omega, by omega⟩
  refine ⟨⟨fun hR => (key hR).1, fun hR => ?_⟩, fun hR => (key hR).2⟩
  have h0 := h'.2.2.2 t ht hR
  exact (isSP_le hw h' h (D' t).toNat t ht hR (by omega)).1
/-- the solution, whichever way it was found -/
noncomputable def spSol (n : Int) (e : Int → Int → Prop) (w : Int → Int → Int) (last : Int) : (Int → Prop) × (Int → Int) × (Int → Int) := Classical.epsilon (fun s => isSP n e w last s.1 s.2.1 s.2.2)
noncomputable def spR (n : Int) (e : Int → Int → Prop) (w : Int → Int → Int) (last t : Int) : Prop := (spSol n e w last).1 t
noncomputable def spD (n : Int) (e : Int → Int → Prop) (w : Int → Int → Int) (last t : Int) : Int := (spSol n e w last).2.1 t
noncomputable def spN (n : Int) (e : Int → Int → Prop) (w : Int → Int → Int) (last t : Int) : Int := (spSol n e w last).2.2 t
theorem spSol_is {n : Int} {e : Int → Int → Prop} {w : Int → Int → Int} {last : Int} {R : Int → Prop} {D N : Int → Int} (h : isSP n e w last R D N) : isSP n e w last (spR n e w last) (spD n e w last) (spN n e w last) :=
  Classical.epsilon_spec (p := fun s : (Int → Prop) × (Int → Int) × (Int → Int) => isSP n e w last s.1 s.2.1 s.2.2) ⟨(R, D, N), h⟩
theorem spSol_eq {n : Int} {e : Int → Int → Prop} {w : Int → Int → Int} {last : Int} {R : Int → Prop} {D N : Int → Int} (hw : ∀ t u, 0 ≤ t ∧ t < n → 0 ≤ u ∧ u < n → e t u → 1 ≤ w t u) (h : isSP n e w last R D N) {t : Int} (ht : 0 ≤ t ∧ t < n) :
    (R t ↔ spR n e w last t) ∧ (R t → D t = spD n e w last t ∧ N t = spN n e w last t) := isSP_one hw h (spSol_is h) ht
/-- the next tower of the fastest relay -/
noncomputable def spNext (n : Int) (e : Int → Int → Prop) (w : Int → Int → Int) (last t : Int) : Int := fstI (fun u => e t u ∧ spR n e w last u ∧ spD n e w last t = w t u + spD n e w last u ∧ spN n e w last t = spN n e w last u + 1) n
/-- the tower at a place of it -/
noncomputable def spPath (n : Int) (e : Int → Int → Prop) (w : Int → Int → Int) (last t : Int) : Nat → Int
  | 0 => t
  | k + 1 => spNext n e w last (spPath n e w last t k)
/-! costs: a delay's sixteenfold and the steps -/
noncomputable def costO (w c : Int) : Int := cif (1000000 ≤ w) 1000000 (cif (c < 1000000) (w * 16 + 1 + c) 1000000)
theorem costO_no {w c : Int} (h : 1000000 ≤ w) : costO w c = 1000000 := cif_pos h
theorem costO_far {w c : Int} (h : 1000000 ≤ c) : costO w c = 1000000 := by
  unfold costO
  rw [cif_neg (show ¬ c < 1000000 by omega), cif_same]
theorem costO_in {w c : Int} (h : ¬ 1000000 ≤ w) (h2 : c < 1000000) : costO w c = w * 16 + 1 + c := by
  unfold costO
  rw [cif_neg h, cif_pos h2]
theorem costO_cases (w c : Int) : ((1000000 ≤ w ∨ 1000000 ≤ c) ∧ costO w c = 1000000) ∨ (w < 1000000 ∧ c < 1000000 ∧ costO w c = w * 16 + 1 + c) := by
  by_cases h : 1000000 ≤ w
  · exact Or.inl ⟨Or.inl h, costO_no h⟩
  · by_cases h2 : c < 1000000
    · exact Or.inr ⟨by omega, h2, costO_in h h2⟩
    · exact Or.inl ⟨Or.inr (by omega), costO_far (by omega)⟩
/-- no cost can be made better -/
def isBC (n : Int) (w : Int → Int → Int) (last : Int) (c : Int → Int) : Prop :=
  c last = 0 ∧ (∀ t, 0 ≤ t ∧ t < n → 0 ≤ c t ∧ c t ≤ 1000000) ∧ (∀ t u, 0 ≤ t ∧ t < n → 0 ≤ u ∧ u < n → c t ≤ costO (w t u) (c u)) ∧ (∀ t, 0 ≤ t ∧ t < n → ¬ t = last → c t < 1000000 → ∃ u, (0 ≤ u ∧ u < n) ∧ c t = costO (w t u) (c u))
theorem cntI_lt {P : Int → Prop} {n t : Int} (ht : 0 ≤ t ∧ t < n) (hp : ¬ P t) : cntI P n + 1 ≤ n := by
  have h1 := cntI_del (P := fun j => P j ∨ j = t) ht.1 ht.2 (Or.inr rfl)
  have h2 : cntI P n ≤ cntI (fun j => (P j ∨ j = t) ∧ ¬ j = t) n := cntI_mono fun j _ _ h => ⟨Or.inl h, fun e => hp (by rw [← e]; exact h)⟩
  have h3 := (cntI_b (fun j => P j ∨ j = t) (n := n) (by omega)).2
  omega
theorem bc_small {n : Int} {w : Int → Int → Int} {last : Int} {c : Int → Int} (hn : n ≤ 8) (hl : 0 ≤ last ∧ last < n) (hw : ∀ t u, 0 ≤ t ∧ t < n → 0 ≤ u ∧ u < n → (1 ≤ w t u ∧ w t u ≤ 40) ∨ w t u = 1000000) (h : isBC n w last c) :
    ∀ (k : Nat) (t : Int), 0 ≤ t ∧ t < n → c t < 1000000 → c t ≤ k → ∃ A B, c t = 16 * A + B ∧ 0 ≤ A ∧ A ≤ 40 * B ∧ 0 ≤ B ∧ B ≤ cntI (fun u => c u < c t) n := by
  obtain ⟨a, b, c1, f⟩ := h
  intro k
  induction k using Nat.strongRecOn with
  | ind k ih =>
    intro t ht hR hk
    have hcnt := fun P => (cntI_b P (n := n) (by omega)).1
    by_cases ht2 : t = last
    · refine ⟨0, 0, by rw [ht2, a]; rfl, by omega, by omega, by omega, hcnt _⟩
    · obtain ⟨u, hu, e⟩ := f t ht ht2 hR
      have b1 := b u hu
      rcases costO_cases (w t u) (c u) with ⟨-, e2⟩ | ⟨e1, e3, e2⟩
      · omega
      · have w1 := hw t u ht hu
        obtain ⟨A, B, g1, g2, g3, g4, g5⟩ := ih (c u).toNat (by omega) u hu e3 (by omega)
        refine ⟨A + w t u, B + 1, by omega, by omega, by omega, by omega, ?_⟩
        have q1 := cntI_del (P := fun v => c v < c t) hu.1 hu.2 (show c u < c t by omega)
        have q2 : cntI (fun v => c v < c u) n ≤ cntI (fun v => c v < c t ∧ ¬ v = u) n := cntI_mono fun j _ _ z => ⟨by omega, fun z2 => by rw [z2] at z; omega⟩
        omega
theorem bc_sp {n : Int} {w : Int → Int → Int} {last : Int} {c : Int → Int} (hn : n ≤ 8) (hl : 0 ≤ last ∧ last < n) (hw : ∀ t u, 0 ≤ t ∧ t < n → 0 ≤ u ∧ u < n → (1 ≤ w t u ∧ w t u ≤ 40) ∨ w t u = 1000000) (h : isBC n w last c) :
    isSP n (fun t u => w t u < 1000000) w last (fun t => c t < 1000000) (fun t => c t / 16) (fun t => c t % 16) ∧ ∀ t, 0 ≤ t ∧ t < n → c t < 1000000 → c t / 16 ≤ 280 ∧ c t % 16 ≤ 7 := by
  have sm : ∀ t, 0 ≤ t ∧ t < n → c t < 1000000 → ∃ A B, c t = 16 * A + B ∧ 0 ≤ A ∧ A ≤ 280 ∧ 0 ≤ B ∧ B ≤ 7 := by
    intro t ht hR
    have b1 := h.2.1 t ht
    obtain ⟨A, B, g1, g2, g3, g4, g5⟩ := bc_small hn hl hw h (c t).toNat t ht hR (by omega)
    have := cntI_lt (P := fun u => c u < c t) ht (by omega)
    exact ⟨A, B, g1, g2, by omega, g4, by omega⟩
  obtain ⟨a, b, c1, f⟩ := h
  refine ⟨⟨⟨by show c last < 1000000; rw [a]; decide, by show c last / 16 = 0; rw [a]; rfl, by show c last % 16 = 0; rw [a]; rfl⟩, fun t ht ht2 hR => ?_, fun t u ht hu he hR => ?_, fun t ht hR => ?_⟩, fun t ht hR => ?_⟩
  · obtain ⟨u, hu, e⟩ := f t ht ht2 hR
    have hR' : c t < 1000000 := hR
    rcases costO_cases (w t u) (c u) with ⟨-, e2⟩ | ⟨e1, e3, e2⟩
    · omega
    · obtain ⟨A, B, g1, g2, g3, g4, g5⟩ := sm u hu e3
      refine ⟨u, hu, e1, e3, ?_, ?_⟩
      · show c t / 16 = w t u + c u / 16
        omega
      · show c t % 16 = c u % 16 + 1
        omega
  · have h1 := c1 t u ht hu
    have w1 := hw t u ht hu
    have hR' : c u < 1000000 := hR
    have he' : w t u < 1000000 := he
    rw [costO_in (by omega) hR'] at h1
    obtain ⟨A, B, g1, g2, g3, g4, g5⟩ := sm u hu hR'
    have hRt : c t < 1000000 := by omega
    obtain ⟨A', B', g1', g2', g3', g4', g5'⟩ := sm t ht hRt
    refine ⟨hRt, ?_⟩
    show lexle (c t / 16) (c t % 16) (w t u + c u / 16) (c u % 16 + 1)
    unfold lexle
    omega
  · have b1 := b t ht
    show 0 ≤ c t / 16
    omega
  · obtain ⟨A, B, g1, g2, g3, g4, g5⟩ := sm t ht hR
    omega
/-- the nearest tower that is not settled -/
noncomputable def nearN (c : Int → Int) (s : Int) : Nat → Int × Int
  | 0 => (0, 1000001)
  | k + 1 => cif (bAnd (bShr s k) 1 = 0 ∧ c k < (nearN c s k).2) ((k : Int), c k) (nearN c s k)
theorem nearN_is {c : Int → Int} {s : Int} (hb : ∀ t, 0 ≤ t ∧ t < 8 → 0 ≤ c t ∧ c t ≤ 1000000) : ∀ k : Nat, k ≤ 8 → (0 ≤ (nearN c s k).1 ∧ (nearN c s k).1 < 8) ∧ (0 ≤ (nearN c s k).2 ∧ (nearN c s k).2 ≤ 1000001) ∧
    ((∀ t : Int, 0 ≤ t ∧ t < (k : Int) → tbit s t) ∧ nearN c s k = (0, 1000001) ∨ (0 ≤ (nearN c s k).1 ∧ (nearN c s k).1 < (k : Int)) ∧ ¬ tbit s (nearN c s k).1 ∧ (nearN c s k).2 = c (nearN c s k).1 ∧ ∀ t : Int, 0 ≤ t ∧ t < (k : Int) → ¬ tbit s t → c (nearN c s k).1 ≤ c t) := by
  intro k
  induction k with
  | zero => intro _; exact ⟨⟨by show (0 : Int) ≤ 0; decide, by show (0 : Int) < 8; decide⟩, ⟨by show (0 : Int) ≤ 1000001; decide, by show (1000001 : Int) ≤ 1000001; decide⟩, Or.inl ⟨fun t ht => by omega, rfl⟩⟩
  | succ k ih =>
    intro hk
    obtain ⟨i1, i2, i3⟩ := ih (by omega)
    have hck := hb k (by omega)
    by_cases hc : bAnd (bShr s k) 1 = 0 ∧ c k < (nearN c s k).2
    · have e : nearN c s (k + 1) = ((k : Int), c k) := cif_pos hc
      have hnb := (bit0_iff (a := s) (t := k) (by omega)).mp hc.1
      rw [e]
      refine ⟨by show 0 ≤ (k : Int) ∧ (k : Int) < 8; omega, by show 0 ≤ c k ∧ c k ≤ 1000001; omega, Or.inr ⟨by show 0 ≤ (k : Int) ∧ (k : Int) < ((k + 1 : Nat) : Int); omega, hnb, rfl, fun t ht hnt => ?_⟩⟩
      show c k ≤ c t
      by_cases ht2 : t = k
      · rw [ht2]; exact Int.le_refl _
      · rcases i3 with ⟨j1, -⟩ | ⟨j1, j2, j3, j4⟩
        · exact absurd (j1 t (by omega)) hnt
        · have := j4 t (by omega) hnt
          omega
    · have e : nearN c s (k + 1) = nearN c s k := cif_neg hc
      rw [e]
      refine ⟨i1, i2, ?_⟩
      by_cases hbk : tbit s k
      · rcases i3 with ⟨j1, j2⟩ | ⟨j1, j2, j3, j4⟩
        · refine Or.inl ⟨fun t ht => ?_, j2⟩
          by_cases ht2 : t = k
          · rw [ht2]; exact hbk
          · exact j1 t (by omega)
        · refine Or.inr ⟨by omega, j2, j3, fun t ht hnt => ?_⟩
          by_cases ht2 : t = k
          · rw [ht2] at hnt; exact absurd hbk hnt
          · exact j4 t (by omega) hnt
      · have hle : ¬ c k < (nearN c s k).2 := fun z => hc ⟨(bit0_iff (a := s) (t := k) (by omega)).mpr hbk, z⟩
        rcases i3 with ⟨j1, j2⟩ | ⟨j1, j2, j3, j4⟩
        · rw [j2] at hle
          exact absurd (show c k < 1000001 by omega) hle
        · refine Or.inr ⟨by omega, j2, j3, fun t ht hnt => ?_⟩
          by_cases ht2 : t = k
          · rw [ht2]; omega
          · exact j4 t (by omega) hnt
def relaxF (n : Int) (g : Int → Int) (c : Int → Int) : Int → Int := fun t => if 0 ≤ t ∧ t < n then min (c t) (g t) else c t
/-- the rounds of settling: what is settled, the costs -/
noncomputable def djk (n : Int) (w : Int → Int → Int) (c0 : Int → Int) : Nat → Int × (Int → Int)
  | 0 => (0, c0)
  | k + 1 => (bOr (djk n w c0 k).1 (bShl 1 (nearN (djk n w c0 k).2 (djk n w c0 k).1 n.toNat).1), relaxF n (fun t => costO (w t (nearN (djk n w c0 k).2 (djk n w c0 k).1 n.toNat).1) ((djk n w c0 k).2 (nearN (djk n w c0 k).2 (djk n w c0 k).1 n.toNat).1)) (djk n w c0 k).2)
theorem costO_ge {w c : Int} (hw : 0 ≤ w) (hc : c ≤ 1000000) : c ≤ costO w c := by
  rcases costO_cases w c with ⟨-, e⟩ | ⟨-, -, e⟩ <;> omega
theorem djk_inv {n : Int} {w : Int → Int → Int} {last : Int} {c0 : Int → Int} (hn : 0 ≤ n ∧ n ≤ 8) (hl : 0 ≤ last ∧ last < n) (hw : ∀ t u, 0 ≤ t ∧ t < n → 0 ≤ u ∧ u < n → 0 ≤ w t u) (h0 : ∀ t, 0 ≤ t ∧ t < 8 → c0 t = if t = last then 0 else 1000000) :
    ∀ k : Nat, (k : Int) ≤ n → (cntI (tbit (djk n w c0 k).1) n = k ∧ (∀ t, 0 ≤ t ∧ t < 8 → 0 ≤ (djk n w c0 k).2 t ∧ (djk n w c0 k).2 t ≤ 1000000) ∧ (djk n w c0 k).2 last = 0) ∧
      (∀ t u, 0 ≤ t ∧ t < n → 0 ≤ u ∧ u < n → tbit (djk n w c0 k).1 u → (djk n w c0 k).2 t ≤ costO (w t u) ((djk n w c0 k).2 u)) ∧
      (∀ u v, 0 ≤ u ∧ u < n → 0 ≤ v ∧ v < n → tbit (djk n w c0 k).1 u → ¬ tbit (djk n w c0 k).1 v → (djk n w c0 k).2 u ≤ (djk n w c0 k).2 v) ∧
      (∀ t, 0 ≤ t ∧ t < n → ¬ t = last → (djk n w c0 k).2 t < 1000000 → ∃ u, (0 ≤ u ∧ u < n) ∧ tbit (djk n w c0 k).1 u ∧ (djk n w c0 k).2 t = costO (w t u) ((djk n w c0 k).2 u)) := by
  intro k
  induction k with
  | zero =>
    intro _
    refine ⟨⟨?_, fun t ht => ?_, ?_⟩, fun t u ht hu hb => absurd hb (tbit_0 u), fun u v hu hv hb => absurd hb (tbit_0 u), fun t ht ht2 hlt => ?_⟩
    · show cntI (tbit 0) n = 0
      rw [cntI_cut (n := 0) (by decide) hn.1 (fun j _ _ => tbit_0 j)]
      rfl
    · show 0 ≤ c0 t ∧ c0 t ≤ 1000000
      rw [h0 t ht]
      split <;> omega
    · show c0 last = 0
      rw [h0 last (by omega), if_pos rfl]
    · have hlt' : c0 t < 1000000 := hlt
      rw [h0 t (by omega), if_neg ht2] at hlt'
      exact absurd hlt' (by decide)
  | succ k ih =>
    intro hk
    obtain ⟨⟨i1, i2, i3⟩, i4, i5, i6⟩ := ih (by omega)
    generalize hs : (djk n w c0 k).1 = s at i1 i4 i5 i6
    generalize hc : (djk n w c0 k).2 = c at i2 i3 i4 i5 i6
    obtain ⟨-, -, n3⟩ := nearN_is (s := s) i2 n.toNat (by omega)
    have hnear : (0 ≤ (nearN c s n.toNat).1 ∧ (nearN c s n.toNat).1 < n) ∧ ¬ tbit s (nearN c s n.toNat).1 ∧ ∀ t, 0 ≤ t ∧ t < n → ¬ tbit s t → c (nearN c s n.toNat).1 ≤ c t := by
      rcases n3 with ⟨j1, -⟩ | ⟨j1, j2, -, j4⟩
      · have := cntI_true (P := tbit s) hn.1 (fun j a b => j1 j (by omega))
        omega
      · exact ⟨by omega, j2, fun t ht hnt => j4 t (by omega) hnt⟩
    have e1 : (djk n w c0 (k + 1)).1 = bOr s (bShl 1 (nearN c s n.toNat).1) := by
      show bOr (djk n w c0 k).1 (bShl 1 (nearN (djk n w c0 k).2 (djk n w c0 k).1 n.toNat).1) = _
      rw [hs, hc]
    have e2 : (djk n w c0 (k + 1)).2 = relaxF n (fun t => costO (w t (nearN c s n.toNat).1) (c (nearN c s n.toNat).1)) c := by
      show relaxF n (fun t => costO (w t (nearN (djk n w c0 k).2 (djk n w c0 k).1 n.toNat).1) ((djk n w c0 k).2 (nearN (djk n w c0 k).2 (djk n w c0 k).1 n.toNat).1)) (djk n w c0 k).2 = _
      rw [hs, hc]
    rw [e1, e2]
    clear e1 e2 hs hc n3
    obtain ⟨hu, hnu, hmin⟩ := hnear
    generalize (nearN c s n.toNat).1 = u at hu hnu hmin
    have hbit : ∀ t, 0 ≤ t ∧ t < n → (tbit (bOr s (bShl 1 u)) t ↔ tbit s t ∨ t = u) := fun t ht => by rw [tbit_or, tbit_shl (by omega) (by omega)]
    have hr : ∀ t, 0 ≤ t ∧ t < n → relaxF n (fun t => costO (w t u) (c u)) c t = min (c t) (costO (w t u) (c u)) := fun t ht => if_pos ht
    have hcu := i2 u (by omega)
    have hge : ∀ t, 0 ≤ t ∧ t < n → c u ≤ costO (w t u) (c u) := fun t ht => costO_ge (hw t u ht hu) hcu.2
    have hset : ∀ t, 0 ≤ t ∧ t < n → tbit s t ∨ t = u → relaxF n (fun t => costO (w t u) (c u)) c t = c t := by
      intro t ht hb
      rw [hr t ht]
      have h1 := hge t ht
      rcases hb with hb | rfl
      · have := i5 t u ht hu hb hnu
        omega
      · omega
    refine ⟨⟨?_, fun t ht => ?_, ?_⟩, fun t v ht hv hb => ?_, fun v x hv hx hb hnb => ?_, fun t ht ht2 hlt => ?_⟩
    · have h1 := cntI_del (P := tbit (bOr s (bShl 1 u))) hu.1 hu.2 ((hbit u hu).mpr (Or.inr rfl))
      have h2 : cntI (fun j => tbit (bOr s (bShl 1 u)) j ∧ ¬ j = u) n = cntI (tbit s) n := cntI_congr fun j a b => by
        rw [hbit j ⟨a, b⟩]
        exact ⟨fun z => z.1.resolve_right z.2, fun z => ⟨Or.inl z, fun e => hnu (by rw [← e]; exact z)⟩⟩
      omega
    · have b1 := i2 t ht
      unfold relaxF
      by_cases c1 : 0 ≤ t ∧ t < n
      · rw [if_pos c1]
        have := hge t c1
        show 0 ≤ min (c t) (costO (w t u) (c u)) ∧ min (c t) (costO (w t u) (c u)) ≤ 1000000
        omega
      · rw [if_neg c1]
        exact b1
    · rw [hr last hl, i3]
      have := hge last hl
      omega
    · have hb' := (hbit v hv).mp hb
      rw [hset v hv hb', hr t ht]
      rcases hb' with h1 | rfl
      · have := i4 t v ht hv h1
        omega
      · omega
    · have hb' := (hbit v hv).mp hb
      have hnb' : ¬ (tbit s x ∨ x = u) := fun z => hnb ((hbit x hx).mpr z)
      have hnx : ¬ tbit s x := fun z => hnb' (Or.inl z)
      rw [hset v hv hb', hr x hx]
      have h1 := hge x hx
      rcases hb' with h2 | rfl
      · have h3 := i5 v x hv hx h2 hnx
        have h4 := i5 v u hv hu h2 hnu
        omega
      · have := hmin x hx hnx
        omega
    · rw [hr t ht] at hlt ⊢
      by_cases hle : c t ≤ costO (w t u) (c u)
      · obtain ⟨v, hv, hvb, hve⟩ := i6 t ht ht2 (by omega)
        refine ⟨v, hv, (hbit v hv).mpr (Or.inl hvb), ?_⟩
        rw [hset v hv (Or.inl hvb), Int.min_eq_left hle]
        exact hve
      · refine ⟨u, hu, (hbit u hu).mpr (Or.inr rfl), ?_⟩
        rw [hset u hu (Or.inr rfl), Int.min_eq_right (by omega)]
theorem djk_bc {n : Int} {w : Int → Int → Int} {last : Int} {c0 : Int → Int} (hn : 0 ≤ n ∧ n ≤ 8) (hl : 0 ≤ last ∧ last < n) (hw : ∀ t u, 0 ≤ t ∧ t < n → 0 ≤ u ∧ u < n → 0 ≤ w t u) (h0 : ∀ t, 0 ≤ t ∧ t < 8 → c0 t = if t = last then 0 else 1000000) :
    isBC n w last (djk n w c0 n.toNat).2 := by
  obtain ⟨⟨i1, i2, i3⟩, i4, i5, i6⟩ := djk_inv hn hl hw h0 n.toNat (by omega)
  have hall : ∀ u, 0 ≤ u ∧ u < n → tbit (djk n w c0 n.toNat).1 u := fun u hu => Classical.byContradiction fun z => by
    have := cntI_lt (P := tbit (djk n w c0 n.toNat).1) hu z
    omega
  refine ⟨i3, fun t ht => i2 t (by omega), fun t u ht hu => i4 t u ht hu (hall u hu), fun t ht ht2 hlt => ?_⟩
  obtain ⟨u, hu, -, e⟩ := i6 t ht ht2 hlt
  exact ⟨u, hu, e⟩
