/-! a letter is sent -/
theorem rowB_mono {B C : Int} {r : Nat} {V : VV} (h : rowB B r V) (hB : B ≤ C) : rowB C r V :=
  ⟨h.1, h.2.1, h.2.2.1, h.2.2.2.1, h.2.2.2.2.1, h.2.2.2.2.2.1, fun t ht => ⟨(h.2.2.2.2.2.2.1 t ht).1, Int.le_trans (h.2.2.2.2.2.2.1 t ht).2 hB⟩, h.2.2.2.2.2.2.2.1, h.2.2.2.2.2.2.2.2.1, fun t ht => ⟨(h.2.2.2.2.2.2.2.2.2 t ht).1, Int.le_trans (h.2.2.2.2.2.2.2.2.2 t ht).2 hB⟩⟩
theorem rowok_of {B : Int} {V : VV} (h : rowB B 0 V) (hB : B ≤ 1000000) : rowok V := rowB_mono h hB
theorem rowB_7 {B : Int} {V : VV} (h : rowB B 0 V) (t : Int) : rowB (B + 1) 0 (upV V 7 0 t (V 7 0 t + 1)) := by
  refine ⟨h.1, h.2.1, h.2.2.1, h.2.2.2.1, h.2.2.2.2.1, h.2.2.2.2.2.1, fun j hj => ?_, h.2.2.2.2.2.2.2.1, h.2.2.2.2.2.2.2.2.1, fun j hj => ?_⟩
  · show 0 ≤ (if j = t then V 7 0 t + 1 else V 7 0 j) ∧ (if j = t then V 7 0 t + 1 else V 7 0 j) ≤ B + 1
    have := h.2.2.2.2.2.2.1 j hj
    by_cases k : j = t
    · rw [if_pos k, ← k]; omega
    · rw [if_neg k]; omega
  · have := h.2.2.2.2.2.2.2.2.2 j hj
    show 0 ≤ V 10 0 j ∧ V 10 0 j ≤ B + 1
    omega
theorem rowB_10 {B : Int} {V : VV} (h : rowB B 0 V) (t : Int) : rowB (B + 1) 0 (upV V 10 0 t (V 10 0 t + 1)) := by
  refine ⟨h.1, h.2.1, h.2.2.1, h.2.2.2.1, h.2.2.2.2.1, h.2.2.2.2.2.1, fun j hj => ?_, h.2.2.2.2.2.2.2.1, h.2.2.2.2.2.2.2.2.1, fun j hj => ?_⟩
  · have := h.2.2.2.2.2.2.1 j hj
    show 0 ≤ V 7 0 j ∧ V 7 0 j ≤ B + 1
    omega
  · show 0 ≤ (if j = t then V 10 0 t + 1 else V 10 0 j) ∧ (if j = t then V 10 0 t + 1 else V 10 0 j) ≤ B + 1
    have := h.2.2.2.2.2.2.2.2.2 j hj
    by_cases k : j = t
    · rw [if_pos k, ← k]; omega
    · rw [if_neg k]; omega
theorem rowB_log {B : Int} {V : VV} (h : rowB B 0 V) {u l : Int} (hu : 0 ≤ u ∧ u < 8) (hl : 0 ≤ l ∧ l ≤ 65535) : rowB B 0 (logV V u l) := by
  refine ⟨h.1, h.2.1, h.2.2.1, h.2.2.2.1, h.2.2.2.2.1, h.2.2.2.2.2.1, h.2.2.2.2.2.2.1, fun j hj => ?_, fun j hj => ?_, h.2.2.2.2.2.2.2.2.2⟩
  · show 0 ≤ (if j = u then min (V 8 0 u + 1) 8 else V 8 0 j) ∧ (if j = u then min (V 8 0 u + 1) 8 else V 8 0 j) ≤ 8
    have := h.2.2.2.2.2.2.2.1 j hj
    by_cases k : j = u
    · rw [if_pos k, ← k]; omega
    · rw [if_neg k]; omega
  · show 0 ≤ logT (V 9 0) (V 8 0 u) u l j ∧ logT (V 9 0) (V 8 0 u) u l j ≤ 65535
    unfold logT
    by_cases k : V 8 0 u = 8 ∧ 8 * u ≤ j ∧ j < 8 * u + 7
    · rw [if_pos k]; exact h.2.2.2.2.2.2.2.2.1 (j + 1) (by omega)
    · rw [if_neg k]
      by_cases k2 : j = 8 * u + min (V 8 0 u) 7
      · rw [if_pos k2]; omega
      · rw [if_neg k2]; exact h.2.2.2.2.2.2.2.2.1 j hj
/-- the letter l went from tower t to tower u -/
def stepV (V : VV) (t u l : Int) : VV := logV (upV V 7 0 t (V 7 0 t + 1)) u l
/-- the letter l went k towers along the way P -/
def passV (V : VV) (P : Nat → Int) (l : Int) : Nat → VV
  | 0 => V
  | k + 1 => stepV (passV V P l k) (P k) (P (k + 1)) l
theorem setA_off {V : VV} {a : Nat} {f : Int → Int} {a' b' : Nat} (h : a' ≠ a ∨ b' ≠ 0) : setA V a 0 f a' b' = V a' b' := by
  funext j
  show cond (Nat.beq a' a && Nat.beq b' 0) _ _ = _
  have : (Nat.beq a' a && Nat.beq b' 0) = false := by
    cases k1 : Nat.beq a' a with
    | false => rfl
    | true =>
      cases k2 : Nat.beq b' 0 with
      | false => rfl
      | true =>
        rcases h with h | h
        · exact absurd (Nat.eq_of_beq_eq_true k1) h
        · exact absurd (Nat.eq_of_beq_eq_true k2) h
  rw [this]
  rfl
theorem upV_off2 {V : VV} {a b : Nat} {e v : Int} {a' b' : Nat} (h : a' ≠ a ∨ b' ≠ b) : upV V a b e v a' b' = V a' b' := by
  funext j
  show cond (Nat.beq a' a && Nat.beq b' b) _ _ = _
  have : (Nat.beq a' a && Nat.beq b' b) = false := by
    cases k1 : Nat.beq a' a with
    | false => rfl
    | true =>
      cases k2 : Nat.beq b' b with
      | false => rfl
      | true =>
        rcases h with h | h
        · exact absurd (Nat.eq_of_beq_eq_true k1) h
        · exact absurd (Nat.eq_of_beq_eq_true k2) h
  rw [this]
  rfl
theorem passV_off {V : VV} {P : Nat → Int} {l : Int} {a b : Nat} (h : ¬ (7 ≤ a ∧ a ≤ 9) ∨ b ≠ 0) : ∀ k : Nat, passV V P l k a b = V a b := by
  intro k
  induction k with
  | zero => rfl
  | succ k ih =>
    show setA (setA (upV (passV V P l k) 7 0 _ _) 9 0 _) 8 0 _ a b = V a b
    rw [setA_off (by omega), setA_off (by omega), upV_off2 (by omega), ih]
theorem rowB_pass {B : Int} {V : VV} {P : Nat → Int} {l : Int} (h : rowB B 0 V) (hl : 0 ≤ l ∧ l ≤ 65535) : ∀ k : Nat, (∀ i : Nat, i ≤ k → 0 ≤ P i ∧ P i < 8) → rowB (B + k) 0 (passV V P l k) := by
  intro k
  induction k with
  | zero => intro _; exact rowB_mono h (by omega)
  | succ k ih =>
    intro hP
    have := rowB_log (rowB_7 (ih (fun i hi => hP i (by omega))) (P k)) (hP (k + 1) (by omega)) hl
    exact rowB_mono this (by omega)
/-- the letter l was sent along what the relays found -/
def sentV (V : VV) (P : Nat → Int) (l : Int) (k : Nat) : VV := upV (passV V P l k) 10 0 (l - 97) (passV V P l k 10 0 (l - 97) + 1)
theorem s_135 {d : Nat} {q : QQ} {V : VV} {B x1 : Int} {n : Nat} (rb : rowB B 0 V) (hB : B ≤ 999990) (po : pathok V) (p : 97 ≤ x1 ∧ x1 < 113) (hn : V 15 0 6 = (n : Int) + 1) :
    RUN (d + 1) 135 (am_en 135 [aR 1 0, aI (iI x1)]) (HM q V) = rV (HM q (sentV V (fun i => V 21 0 i) x1 n)) := by
  have hb := po.1
  rw [g_135_0 (rowok_of rb (by omega)) p]
  have hP : ∀ i : Nat, i ≤ n → 0 ≤ V 21 0 i ∧ V 21 0 i < 8 := fun i hi => po.2 i (by omega)
  have hr : ∀ k : Nat, k ≤ n → rowB (B + k) 0 (passV V (fun i => V 21 0 i) x1 k) := fun k hk => rowB_pass rb (by omega) k (fun i hi => hP i (by omega))
  obtain ⟨_, e⟩ := loop_to (fun i s (_ : Unit) => RUN (d + 1) 135 (2, [sR 1 0, sI x1, sI i], []) (HM q s)) (fun i => passV V (fun i => V 21 0 i) x1 (i - 1).toNat) 1 ((n : Int) + 1) (by
    intro i l h1 h2
    refine ⟨(), ?_⟩
    try dsimp only
    obtain ⟨k, rfl⟩ : ∃ k : Nat, i = (k : Int) + 1 := ⟨(i - 1).toNat, by omega⟩
    have hk := hr k (by omega)
    have e15 : passV V (fun i => V 21 0 i) x1 k 15 0 = V 15 0 := passV_off (by omega) k
    have e21 : passV V (fun i => V 21 0 i) x1 k 21 0 = V 21 0 := passV_off (by omega) k
    rw [show ((k : Int) + 1 - 1).toNat = k by omega, show ((k : Int) + 1 + 1 - 1).toNat = k + 1 by omega]
    have h21a := hP k (by omega)
    have h21b := hP (k + 1) (by omega)
    have ek : ((k + 1 : Nat) : Int) = (k : Int) + 1 := by omega
    rw [ek] at h21b
    have x2 : (k : Int) + 1 - 1 = k := by omega
    rw [g_135_2 (rowok_of hk (by omega)) p (by rw [e15, hn]; constructor <;> omega) (by constructor <;> omega) (fun _ => by omega) (fun _ => by rw [e21, x2]; exact h21a) (fun _ => by omega) (fun _ => rowok_of (rowB_7 hk _) (by omega)) (fun _ => by rw [e21]; exact h21b), cif_neg (by rw [e15, hn]; omega), e21, x2]
    refine congrArg (fun s => RUN (d + 1) 135 (2, [sR 1 0, sI x1, sI ((k : Int) + 1 + 1)], []) (HM q s)) ?_
    show _ = stepV (passV V (fun i => V 21 0 i) x1 k) (V 21 0 k) (V 21 0 ((k + 1 : Nat) : Int)) x1
    rw [ek]
    rfl) (by omega) ()
  try dsimp only at e
  rw [show ((1 : Int) - 1).toNat = 0 from rfl, show ((n : Int) + 1 - 1).toNat = n by omega] at e
  refine Eq.trans e ?_
  have hk := hr n (Nat.le_refl _)
  have e15 : passV V (fun i => V 21 0 i) x1 n 15 0 = V 15 0 := passV_off (by omega) n
  rw [g_135_2 (rowok_of hk (by omega)) p (by rw [e15, hn]; constructor <;> omega) (by constructor <;> omega) (fun c => absurd (by rw [e15, hn]; omega) c) (fun c => absurd (by rw [e15, hn]; omega) c) (fun c => absurd (by rw [e15, hn]; omega) c) (fun c => absurd (by rw [e15, hn]; omega) c) (fun c => absurd (by rw [e15, hn]; omega) c)]
  exact cif_pos (by rw [e15, hn]; omega)
/-- what the relays found -/
theorem found_is {V : VV} {x1 x2 : Int} (rk : rowok V) (rl : relok V) (p1 : 0 ≤ x1 ∧ x1 < V 2 0 8) (p2 : 0 ≤ x2 ∧ x2 < V 2 0 8) (hR : spR (V 2 0 8) (cE V) (cW V) x2 x1) :
    ∃ n : Nat, (n : Int) = spN (V 2 0 8) (cE V) (cW V) x2 x1 ∧ n ≤ 7 ∧ foundV V x1 x2 15 0 6 = (n : Int) + 1 ∧ foundV V x1 x2 15 0 7 = spD (V 2 0 8) (cE V) (cW V) x2 x1 ∧ pathok (foundV V x1 x2) ∧
      (∀ i : Nat, i ≤ n → foundV V x1 x2 21 0 i = spPath (V 2 0 8) (cE V) (cW V) x2 x1 i ∧ 0 ≤ spPath (V 2 0 8) (cE V) (cW V) x2 x1 i ∧ spPath (V 2 0 8) (cE V) (cW V) x2 x1 i < V 2 0 8) ∧ relok (foundV V x1 x2) := by
  have hn := rk_n rk
  obtain ⟨hs, hc, hbc⟩ := settle_sp rk rl p2
  obtain ⟨c1, c2, c3⟩ := hc x1 p1
  have hw1 : ∀ t u, 0 ≤ t ∧ t < V 2 0 8 → 0 ≤ u ∧ u < V 2 0 8 → cE V t u → 1 ≤ cW V t u := fun t u ht hu _ => (delT_b rk (a := t) (b := u) (by omega) (by omega)).1
  obtain ⟨c4, c5, c6, c7⟩ := c3 (c1.mpr hR)
  have hD0 := hs.2.2.2 x1 p1 hR
  have hN0 := sp_N hw1 hs (spD (V 2 0 8) (cE V) (cW V) x2 x1).toNat x1 p1 hR (by omega)
  have hpath := spPath_is hw1 hs p1 hR
  have rls : relok (settleV (stepsV V) x2) := relok_set (relok_steps rk rl) (settle_inv (V := stepsV V) rk (relok_steps rk rl) p2 (V 2 0 8).toNat (show ((V 2 0 8).toNat : Int) ≤ V 2 0 8 by omega))
  have h7 : spN (V 2 0 8) (cE V) (cW V) x2 x1 ≤ 7 := by omega
  refine ⟨(spN (V 2 0 8) (cE V) (cW V) x2 x1).toNat, by omega, by omega, ?_, rfl, ⟨?_, fun i hi => ?_⟩, fun i hi => ⟨?_, (hpath i (by omega)).1⟩, rls⟩
  · show spN (V 2 0 8) (cE V) (cW V) x2 x1 + 1 = _
    omega
  · show 0 ≤ spN (V 2 0 8) (cE V) (cW V) x2 x1 + 1 ∧ spN (V 2 0 8) (cE V) (cW V) x2 x1 + 1 ≤ 8
    omega
  · have hi2 : 0 ≤ i ∧ i < spN (V 2 0 8) (cE V) (cW V) x2 x1 + 1 := hi
    show 0 ≤ (if 0 ≤ i ∧ i < spN (V 2 0 8) (cE V) (cW V) x2 x1 + 1 then spPath (V 2 0 8) (cE V) (cW V) x2 x1 i.toNat else _) ∧ (if 0 ≤ i ∧ i < spN (V 2 0 8) (cE V) (cW V) x2 x1 + 1 then spPath (V 2 0 8) (cE V) (cW V) x2 x1 i.toNat else _) < 8
    rw [if_pos hi2]
    have := (hpath i.toNat (by omega)).1
    omega
  · show (if 0 ≤ (i : Int) ∧ (i : Int) < spN (V 2 0 8) (cE V) (cW V) x2 x1 + 1 then spPath (V 2 0 8) (cE V) (cW V) x2 x1 (i : Int).toNat else _) = _
    rw [if_pos (by omega)]
    rfl
