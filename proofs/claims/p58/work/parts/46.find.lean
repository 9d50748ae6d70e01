/-! the fastest relay is found -/
theorem isSP_congr {n : Int} {e e' : Int → Int → Prop} {w w' : Int → Int → Int} {last : Int} {R : Int → Prop} {D N : Int → Int} (he : ∀ t u, 0 ≤ t ∧ t < n → 0 ≤ u ∧ u < n → (e t u ↔ e' t u) ∧ (e t u → w t u = w' t u)) (h : isSP n e w last R D N) : isSP n e' w' last R D N := by
  obtain ⟨a, b, c, f⟩ := h
  refine ⟨a, fun t ht hl hR => ?_, fun t u ht hu hee hR => ?_, f⟩
  · obtain ⟨u, hu, h1, h2, h3, h4⟩ := b t ht hl hR
    obtain ⟨g1, g2⟩ := he t u ht hu
    exact ⟨u, hu, g1.mp h1, h2, by rw [← g2 h1]; exact h3, h4⟩
  · obtain ⟨g1, g2⟩ := he t u ht hu
    have h1 := g1.mpr hee
    rw [← g2 h1]
    exact c t u ht hu h1 hR
abbrev cE (V : VV) : Int → Int → Prop := seeT (V 3 0) (V 4 0) (V 5 0)
abbrev cW (V : VV) : Int → Int → Int := delT (V 4 0) (V 2 0 9)
theorem steps_at {V : VV} {t u : Int} (hn : 0 ≤ V 2 0 8) (ht : 0 ≤ t ∧ t < V 2 0 8) (hu : 0 ≤ u ∧ u < V 2 0 8) : stepW (stepsV V) t u = stepT (V 3 0) (V 4 0) (V 5 0) (V 2 0 9) t u := by
  show (if ((t.toNat : Int) < V 2 0 8 ∧ 0 ≤ u ∧ u < V 2 0 8) ∨ ((t.toNat : Int) = V 2 0 8 ∧ 0 ≤ u ∧ u < 0) then stepT (V 3 0) (V 4 0) (V 5 0) (V 2 0 9) (t.toNat : Int) u else V 17 t.toNat u) = _
  rw [if_pos (by omega), show (t.toNat : Int) = t by omega]
theorem stepT_b {V : VV} (rk : rowok V) {t u : Int} (ht : 0 ≤ t ∧ t < 8) (hu : 0 ≤ u ∧ u < 8) : (cE V t u ∧ stepT (V 3 0) (V 4 0) (V 5 0) (V 2 0 9) t u = cW V t u ∧ 1 ≤ cW V t u ∧ cW V t u ≤ 40) ∨ (¬ cE V t u ∧ stepT (V 3 0) (V 4 0) (V 5 0) (V 2 0 9) t u = 1000000) := by
  have h1 := delT_b rk ht hu
  unfold stepT
  by_cases h : cE V t u
  · exact Or.inl ⟨h, cif_pos h, h1⟩
  · exact Or.inr ⟨h, cif_neg h⟩
theorem relok_steps {V : VV} (rk : rowok V) (rl : relok V) : relok (stepsV V) := by
  have hn := rk_n rk
  refine ⟨fun i j hi hj => ?_, rl.2.1, rl.2.2⟩
  show 0 ≤ (if ((i.toNat : Int) < V 2 0 8 ∧ 0 ≤ j ∧ j < V 2 0 8) ∨ ((i.toNat : Int) = V 2 0 8 ∧ 0 ≤ j ∧ j < 0) then stepT (V 3 0) (V 4 0) (V 5 0) (V 2 0 9) (i.toNat : Int) j else V 17 i.toNat j) ∧ (if ((i.toNat : Int) < V 2 0 8 ∧ 0 ≤ j ∧ j < V 2 0 8) ∨ ((i.toNat : Int) = V 2 0 8 ∧ 0 ≤ j ∧ j < 0) then stepT (V 3 0) (V 4 0) (V 5 0) (V 2 0 9) (i.toNat : Int) j else V 17 i.toNat j) ≤ 1000000
  by_cases c : ((i.toNat : Int) < V 2 0 8 ∧ 0 ≤ j ∧ j < V 2 0 8) ∨ ((i.toNat : Int) = V 2 0 8 ∧ 0 ≤ j ∧ j < 0)
  · rw [if_pos c]
    rcases stepT_b rk (t := (i.toNat : Int)) (u := j) (by omega) hj with ⟨-, e, h⟩ | ⟨-, e⟩ <;> omega
  · rw [if_neg c]
    exact rl.1 i j hi hj
/-- what the settled costs say of the fastest relays to 'last' -/
theorem settle_sp {V : VV} (rk : rowok V) (rl : relok V) {last : Int} (hl : 0 ≤ last ∧ last < V 2 0 8) :
    isSP (V 2 0 8) (cE V) (cW V) last (spR (V 2 0 8) (cE V) (cW V) last) (spD (V 2 0 8) (cE V) (cW V) last) (spN (V 2 0 8) (cE V) (cW V) last) ∧
    (∀ t, 0 ≤ t ∧ t < V 2 0 8 → (settleC (stepsV V) last t < 1000000 ↔ spR (V 2 0 8) (cE V) (cW V) last t) ∧ (0 ≤ settleC (stepsV V) last t ∧ settleC (stepsV V) last t ≤ 1000000) ∧ (settleC (stepsV V) last t < 1000000 → settleC (stepsV V) last t / 16 = spD (V 2 0 8) (cE V) (cW V) last t ∧ settleC (stepsV V) last t % 16 = spN (V 2 0 8) (cE V) (cW V) last t ∧ spD (V 2 0 8) (cE V) (cW V) last t ≤ 280 ∧ spN (V 2 0 8) (cE V) (cW V) last t ≤ 7)) ∧
    isBC (V 2 0 8) (stepW (stepsV V)) last (settleC (stepsV V) last) := by
  have hn := rk_n rk
  have hst := fun t u (ht : 0 ≤ t ∧ t < V 2 0 8) (hu : 0 ≤ u ∧ u < V 2 0 8) => steps_at (V := V) hn.1 ht hu
  have hbc : isBC (V 2 0 8) (stepW (stepsV V)) last (settleC (stepsV V) last) := by
    refine djk_bc (n := V 2 0 8) hn hl (fun t u ht hu => ?_) (fun t ht => ?_)
    · rw [hst t u ht hu]
      rcases stepT_b rk (t := t) (u := u) (by omega) (by omega) with ⟨-, e, h⟩ | ⟨-, e⟩ <;> omega
    · unfold initC
      rw [if_pos ht]
  obtain ⟨hs, hb⟩ := bc_sp hn.2 hl (fun t u ht hu => by
    rw [hst t u ht hu]
    rcases stepT_b rk (t := t) (u := u) (by omega) (by omega) with ⟨-, e, h⟩ | ⟨-, e⟩
    · left; omega
    · right; exact e) hbc
  have hs2 := isSP_congr (e' := cE V) (w' := cW V) (fun t u ht hu => by
    rw [hst t u ht hu]
    rcases stepT_b rk (t := t) (u := u) (by omega) (by omega) with ⟨h0, e, h⟩ | ⟨h0, e⟩
    · exact ⟨⟨fun _ => h0, fun _ => by omega⟩, fun _ => e⟩
    · exact ⟨⟨fun z => by omega, fun z => absurd z h0⟩, fun z => by omega⟩) hs
  have hw1 : ∀ t u, 0 ≤ t ∧ t < V 2 0 8 → 0 ≤ u ∧ u < V 2 0 8 → cE V t u → 1 ≤ cW V t u := fun t u ht hu _ => (delT_b rk (a := t) (b := u) (by omega) (by omega)).1
  refine ⟨spSol_is hs2, fun t ht => ?_, hbc⟩
  obtain ⟨g1, g2⟩ := spSol_eq hw1 hs2 ht
  refine ⟨g1, hbc.2.1 t ht, fun hR => ?_⟩
  obtain ⟨g3, g4⟩ := g2 hR
  obtain ⟨g5, g6⟩ := hb t ht hR
  exact ⟨g3, g4, by rw [← g3]; exact g5, by rw [← g4]; exact g6⟩
theorem sp_N {n : Int} {e : Int → Int → Prop} {w : Int → Int → Int} {last : Int} {R : Int → Prop} {D N : Int → Int} (hw : ∀ t u, 0 ≤ t ∧ t < n → 0 ≤ u ∧ u < n → e t u → 1 ≤ w t u) (h : isSP n e w last R D N) : ∀ (k : Nat) (t : Int), 0 ≤ t ∧ t < n → R t → D t ≤ k → 0 ≤ N t ∧ (N t = 0 ↔ t = last) := by
  obtain ⟨⟨a1, a2, a3⟩, b, c, f⟩ := h
  intro k
  induction k using Nat.strongRecOn with
  | ind k ih =>
    intro t ht hR hk
    by_cases hl : t = last
    · subst hl
      exact ⟨by omega, fun _ => rfl, fun _ => a3⟩
    · obtain ⟨u, hu, he, hRu, hD, hN⟩ := b t ht hl hR
      have h1 := hw t u ht hu he
      have h0 := f u hu hRu
      have h2 := ih (D u).toNat (by omega) u hu hRu (by omega)
      exact ⟨by omega, fun z => by omega, fun z => absurd z hl⟩
/-- the next tower, on a relay -/
theorem spNext_is {n : Int} {e : Int → Int → Prop} {w : Int → Int → Int} {last : Int} (h : isSP n e w last (spR n e w last) (spD n e w last) (spN n e w last)) {t : Int} (ht : 0 ≤ t ∧ t < n) (hR : spR n e w last t) (hl : ¬ t = last) :
    (0 ≤ spNext n e w last t ∧ spNext n e w last t < n) ∧ e t (spNext n e w last t) ∧ spR n e w last (spNext n e w last t) ∧ spD n e w last t = w t (spNext n e w last t) + spD n e w last (spNext n e w last t) ∧ spN n e w last t = spN n e w last (spNext n e w last t) + 1 := by
  obtain ⟨u, hu, h1, h2, h3, h4⟩ := h.2.1 t ht hl hR
  unfold spNext
  rcases fstI_cases (fun u => e t u ∧ spR n e w last u ∧ spD n e w last t = w t u + spD n e w last u ∧ spN n e w last t = spN n e w last u + 1) n with ⟨g1, g2, g3, -⟩ | ⟨-, g⟩
  · exact ⟨⟨g1, g2⟩, g3⟩
  · exact absurd ⟨h1, h2, h3, h4⟩ (g u hu.1 hu.2)
theorem spPath_is {n : Int} {e : Int → Int → Prop} {w : Int → Int → Int} {last : Int} (hw : ∀ t u, 0 ≤ t ∧ t < n → 0 ≤ u ∧ u < n → e t u → 1 ≤ w t u) (h : isSP n e w last (spR n e w last) (spD n e w last) (spN n e w last)) {t : Int} (ht : 0 ≤ t ∧ t < n) (hR : spR n e w last t) :
    ∀ k : Nat, (k : Int) ≤ spN n e w last t → (0 ≤ spPath n e w last t k ∧ spPath n e w last t k < n) ∧ spR n e w last (spPath n e w last t k) ∧ spN n e w last (spPath n e w last t k) = spN n e w last t - k := by
  intro k
  induction k with
  | zero => intro _; exact ⟨ht, hR, by show spN n e w last t = spN n e w last t - ((0 : Nat) : Int); omega⟩
  | succ k ih =>
    intro hk
    obtain ⟨i1, i2, i3⟩ := ih (by omega)
    have h0 := h.2.2.2 _ i1 i2
    have h1 := sp_N hw h (spD n e w last (spPath n e w last t k)).toNat _ i1 i2 (by omega)
    have hl : ¬ spPath n e w last t k = last := fun z => by
      have := h1.2.mpr z
      omega
    obtain ⟨g1, g2, g3, g4, g5⟩ := spNext_is h i1 i2 hl
    exact ⟨g1, g3, by show spN n e w last (spNext n e w last (spPath n e w last t k)) = _; omega⟩
theorem best_next {V : VV} (rk : rowok V) (rl : relok V) {last t : Int} (hl : 0 ≤ last ∧ last < V 2 0 8) (ht : 0 ≤ t ∧ t < V 2 0 8) (hR : spR (V 2 0 8) (cE V) (cW V) last t) (hne : ¬ t = last) : bestN (stepW (stepsV V)) (settleC (stepsV V) last) (V 2 0 8) t = spNext (V 2 0 8) (cE V) (cW V) last t := by
  have hn := rk_n rk
  obtain ⟨hs, hc, hbc⟩ := settle_sp rk rl hl
  obtain ⟨c1, c2, c3⟩ := hc t ht
  have hlt := c1.mpr hR
  obtain ⟨c4, c5, c6, c7⟩ := c3 hlt
  have e : fstI (fun u => costO (stepW (stepsV V) t u) (settleC (stepsV V) last u) = settleC (stepsV V) last t) (V 2 0 8) = spNext (V 2 0 8) (cE V) (cW V) last t := by
    refine fstI_congr fun u u1 u2 => ?_
    have hu : 0 ≤ u ∧ u < V 2 0 8 := ⟨u1, u2⟩
    obtain ⟨d1, d2, d3⟩ := hc u hu
    rw [steps_at (V := V) hn.1 ht hu]
    have hN := sp_N (fun t u ht hu _ => (delT_b rk (a := t) (b := u) (by omega) (by omega)).1) hs
    rcases stepT_b rk (t := t) (u := u) (by omega) (by omega) with ⟨h0, e1, h⟩ | ⟨h0, e1⟩
    · rw [e1]
      rcases costO_cases (cW V t u) (settleC (stepsV V) last u) with ⟨q1, q2⟩ | ⟨q1, q2, q3⟩
      · rw [q2]
        refine ⟨fun z => by omega, fun z => ?_⟩
        have := d1.mpr z.2.1
        omega
      · rw [q3]
        obtain ⟨d4, d5, d6, d7⟩ := d3 q2
        constructor
        · intro z
          refine ⟨h0, d1.mp q2, ?_, ?_⟩ <;> omega
        · rintro ⟨-, -, z1, z2⟩
          omega
    · rw [e1, costO_no (Int.le_refl _)]
      exact ⟨fun z => by omega, fun z => absurd z.1 h0⟩
  have hx := spNext_is hs ht hR hne
  unfold bestN
  rw [e, if_neg (by omega)]
/-- the relay, its length and its delay, laid out -/
def pathV (W : VV) (P : Nat → Int) (len D : Int) : VV := fun a b j => cond (Nat.beq a 15 && Nat.beq b 0) (if j = 6 then len else if j = 7 then D else W a b j) (cond (Nat.beq a 21 && Nat.beq b 0) (if 0 ≤ j ∧ j < len then P j.toNat else W a b j) (W a b j))
theorem pathV_up {W : VV} {P : Nat → Int} {D : Int} {k : Int} (hk : 0 ≤ k) : upV (upV (pathV W P k D) 15 0 6 (k + 1)) 21 0 k (P k.toNat) = pathV W P (k + 1) D := by
  funext a b j
  unfold upV pathV
  cases ha : Nat.beq a 15 with
  | true =>
    have e1 := Nat.eq_of_beq_eq_true ha
    subst e1
    cases Nat.beq b 0 with
    | false => rfl
    | true =>
      show (if j = 6 then k + 1 else if j = 6 then k else if j = 7 then D else W 15 b j) = if j = 6 then k + 1 else if j = 7 then D else W 15 b j
      by_cases c : j = 6
      · rw [if_pos c, if_pos c]
      · rw [if_neg c, if_neg c, if_neg c]
  | false =>
    cases ha2 : Nat.beq a 21 with
    | false => rfl
    | true =>
      cases hb : Nat.beq b 0 with
      | false => rfl
      | true =>
        show (if j = k then P k.toNat else if 0 ≤ j ∧ j < k then P j.toNat else W a b j) = if 0 ≤ j ∧ j < k + 1 then P j.toNat else W a b j
        by_cases c : j = k
        · subst c
          rw [if_pos rfl, if_pos (by omega)]
        · rw [if_neg c]
          by_cases c2 : 0 ≤ j ∧ j < k
          · rw [if_pos c2, if_pos (by omega)]
          · rw [if_neg c2, if_neg (by omega)]
noncomputable def lostV (V : VV) (last : Int) : VV := upV (settleV (stepsV V) last) 15 0 6 0
noncomputable def foundV (V : VV) (t last : Int) : VV := pathV (settleV (stepsV V) last) (spPath (V 2 0 8) (cE V) (cW V) last t) (spN (V 2 0 8) (cE V) (cW V) last t + 1) (spD (V 2 0 8) (cE V) (cW V) last t)
set_option maxHeartbeats 1000000 in
theorem s_105 {d : Nat} {q : QQ} {V : VV} {x1 x2 : Int} (rk : rowok V) (rl : relok V) (p1 : 0 ≤ x1 ∧ x1 < V 2 0 8) (p2 : 0 ≤ x2 ∧ x2 < V 2 0 8) :
    RUN (d + 3) 105 (am_en 105 [aR 15 0, aI (iI x1), aI (iI x2)]) (HM q V) = cif (spR (V 2 0 8) (cE V) (cW V) x2 x1) (rI 1 (HM q (foundV V x1 x2))) (rI 0 (HM q (lostV V x2))) := by
  have hn := rk_n rk
  obtain ⟨hs, hc, hbc⟩ := settle_sp rk rl p2
  obtain ⟨c1, c2, c3⟩ := hc x1 p1
  have hw1 : ∀ t u, 0 ≤ t ∧ t < V 2 0 8 → 0 ≤ u ∧ u < V 2 0 8 → cE V t u → 1 ≤ cW V t u := fun t u ht hu _ => (delT_b rk (a := t) (b := u) (by omega) (by omega)).1
  have hset : ∀ t, settleV (stepsV V) x2 20 0 t = settleC (stepsV V) x2 t := fun t => setA_rd
  have rls : relok (settleV (stepsV V) x2) := relok_set (relok_steps rk rl) (settle_inv (V := stepsV V) rk (relok_steps rk rl) p2 (V 2 0 8).toNat (show ((V 2 0 8).toNat : Int) ≤ V 2 0 8 by omega))
  rw [g_105_0 rk rl (by omega) (by omega) (relok_steps rk rl) p2 (by rw [hset]; omega) (by rw [hset]; intro _; omega)]
  by_cases hR : spR (V 2 0 8) (cE V) (cW V) x2 x1
  · have hlt := c1.mpr hR
    obtain ⟨c4, c5, c6, c7⟩ := c3 hlt
    rw [cif_pos hR, cif_pos (by rw [hset]; exact hlt), hset, c4]
    have hD0 := hs.2.2.2 x1 p1 hR
    have hN0 := sp_N hw1 hs (spD (V 2 0 8) (cE V) (cW V) x2 x1).toNat x1 p1 hR (by omega)
    have hpath := spPath_is hw1 hs p1 hR
    generalize hP : spPath (V 2 0 8) (cE V) (cW V) x2 x1 = P at hpath
    generalize hW : settleV (stepsV V) x2 = W at rls hset
    have hrow : ∀ k D, rowok (pathV W P k D) := fun k D => by rw [← hW]; exact rk
    have hrel : ∀ k D, relok (pathV W P k D) := fun k D => rls
    have hn8 : ∀ k D, pathV W P k D 2 0 8 = V 2 0 8 := fun k D => by rw [← hW]; rfl
    have e0 : upV (upV (upV (upV W 15 0 6 0) 15 0 7 (spD (V 2 0 8) (cE V) (cW V) x2 x1)) 15 0 6 (0 + 1)) 21 0 0 x1 = pathV W P 1 (spD (V 2 0 8) (cE V) (cW V) x2 x1) := by
      have e1 : pathV W P 0 (spD (V 2 0 8) (cE V) (cW V) x2 x1) = upV (upV W 15 0 6 0) 15 0 7 (spD (V 2 0 8) (cE V) (cW V) x2 x1) := by
        funext a b j
        unfold upV pathV
        cases ha : Nat.beq a 15 with
        | true =>
          have e1 := Nat.eq_of_beq_eq_true ha
          subst e1
          cases Nat.beq b 0 with
          | false => rfl
          | true =>
            show (if j = 6 then 0 else if j = 7 then spD (V 2 0 8) (cE V) (cW V) x2 x1 else W 15 b j) = if j = 7 then spD (V 2 0 8) (cE V) (cW V) x2 x1 else if j = 6 then 0 else W 15 b j
            by_cases c : j = 6
            · rw [if_pos c, if_neg (by omega), if_pos c]
            · rw [if_neg c, if_neg c]
        | false =>
          cases Nat.beq a 21 with
          | false => rfl
          | true =>
            cases Nat.beq b 0 with
            | false => rfl
            | true =>
              show (if 0 ≤ j ∧ j < 0 then P j.toNat else W a b j) = W a b j
              rw [if_neg (by omega)]
      have e2 := pathV_up (W := W) (P := P) (D := spD (V 2 0 8) (cE V) (cW V) x2 x1) (k := 0) (Int.le_refl _)
      rw [e1, show P (0 : Int).toNat = x1 from by rw [← hP]; rfl] at e2
      exact e2
    rw [e0]
    have key : ∀ (n : Nat) (k : Nat), spN (V 2 0 8) (cE V) (cW V) x2 x1 - k ≤ n → (k : Int) ≤ spN (V 2 0 8) (cE V) (cW V) x2 x1 → RUN (d + 3) 105 (59, [sR 15 0, sI x1, sI x2, sI (P k)], []) (HM q (pathV W P ((k : Int) + 1) (spD (V 2 0 8) (cE V) (cW V) x2 x1))) = rI 1 (HM q (pathV W P (spN (V 2 0 8) (cE V) (cW V) x2 x1 + 1) (spD (V 2 0 8) (cE V) (cW V) x2 x1))) := by
      intro n
      induction n with
      | zero =>
        intro k h1 h2
        have hk : (k : Int) = spN (V 2 0 8) (cE V) (cW V) x2 x1 := by omega
        obtain ⟨q1, q2, q3⟩ := hpath k h2
        have q4 := (sp_N hw1 hs _ (P k) q1 q2 (Int.self_le_toNat _)).2.mp (by omega)
        rw [g_105_59 (V := pathV W P ((k : Int) + 1) (spD (V 2 0 8) (cE V) (cW V) x2 x1)) (hrow _ _) (hrel _ _) (by omega) (by omega) (by show 0 ≤ (k : Int) + 1 ∧ (k : Int) + 1 < 9; omega), cif_pos q4, hk]
      | succ n ih =>
        intro k h1 h2
        by_cases hk : (k : Int) = spN (V 2 0 8) (cE V) (cW V) x2 x1
        · exact ih k (by omega) h2
        · obtain ⟨q1, q2, q3⟩ := hpath k h2
          have q4 : ¬ P k = x2 := fun z => by
            have := (sp_N hw1 hs _ (P k) q1 q2 (Int.self_le_toNat _)).2.mpr z
            omega
          have hb : bestN (stepW (pathV W P ((k : Int) + 1) (spD (V 2 0 8) (cE V) (cW V) x2 x1))) (pathV W P ((k : Int) + 1) (spD (V 2 0 8) (cE V) (cW V) x2 x1) 20 0) (pathV W P ((k : Int) + 1) (spD (V 2 0 8) (cE V) (cW V) x2 x1) 2 0 8) (P k) = P (k + 1) := by
            have h3 := best_next rk rl p2 q1 q2 q4
            rw [← hP] at h3 ⊢
            rw [← hW]
            exact h3
          rw [g_105_59 (V := pathV W P ((k : Int) + 1) (spD (V 2 0 8) (cE V) (cW V) x2 x1)) (hrow _ _) (hrel _ _) (by omega) (by omega) (by show 0 ≤ (k : Int) + 1 ∧ (k : Int) + 1 < 9; omega), cif_neg q4]
          refine (cif_neg (show ¬ 8 ≤ (k : Int) + 1 by omega)).trans ?_
          rw [hb]
          have e3 := pathV_up (W := W) (P := P) (D := spD (V 2 0 8) (cE V) (cW V) x2 x1) (k := (k : Int) + 1) (by omega)
          rw [show ((k : Int) + 1).toNat = k + 1 by omega] at e3
          have e4 := ih (k + 1) (by omega) (by omega)
          rw [show ((k + 1 : Nat) : Int) = (k : Int) + 1 from rfl, ← e3] at e4
          exact e4
    have e5 := key (spN (V 2 0 8) (cE V) (cW V) x2 x1).toNat 0 (by omega) (by omega)
    unfold foundV
    rw [hP, hW]
    rw [← hP] at e5 ⊢
    exact e5
  · rw [cif_neg hR, cif_neg (by rw [hset]; exact fun z => hR (c1.mp z))]
    rfl
