/-! a relay is written, a pattern is written -/
theorem offO_rel {V W : VV} (h : offO V W) (rl : relok V) : relok W := by
  refine ⟨fun i j hi hj => ?_, fun i j hi hj => ?_, fun j hj => ?_⟩
  · rw [h 17 _ (by omega)]; exact rl.1 i j hi hj
  · rw [h 19 _ (by omega)]; exact rl.2.1 i j hi hj
  · rw [h 20 _ (by omega)]; exact rl.2.2 j hj
noncomputable def patC (x i : Int) : Int := cif (bAnd (bShr x i) 1 = 1) 42 46
theorem pat_go {d : Nat} {q : QQ} {x1 : Int} : ∀ (k : Nat) (i : Int) (V : VV) (L : List Int), outIs V L → 0 ≤ i → i + k = 8 → L.length + k ≤ 32 →
    ∃ W, offO V W ∧ outIs W (L ++ sg (patC x1) i k) ∧ RUN (d + 1) 164 (13, [sR 1 0, sI x1, sI i], []) (HM q V) = rI (L.length + k : Nat) (HM q W) := by
  intro k
  induction k with
  | zero =>
    intro i V L ho h0 hi hl
    refine ⟨V, offO_refl V, ?_, ?_⟩
    · show outIs V (L ++ [])
      rw [List.append_nil]
      exact ho
    · rw [g_164_13 (outok_is ho) (by constructor <;> omega), cif_pos (by omega), ho.1]
      rfl
  | succ k ih =>
    intro i V L ho h0 hi hl
    have o1 := offO_add V (patC x1 i)
    have h2 := out_add (c := patC x1 i) ho (by omega)
    obtain ⟨W, w1, w2, w3⟩ := ih (i + 1) (addV V (patC x1 i)) (L ++ [patC x1 i]) h2 (by omega) (by omega) (by rw [List.length_append]; show L.length + 1 + k ≤ 32; omega)
    refine ⟨W, offO_trans o1 w1, ?_, ?_⟩
    · rw [List.append_assoc] at w2
      exact w2
    · rw [g_164_13 (outok_is ho) (by constructor <;> omega), cif_neg (by omega)]
      rw [List.length_append] at w3
      have e : cif (bAnd (bShr x1 i) 1 = 1) (RUN (d + 1) 164 (13, [sR 1 0, sI x1, sI (i + 1)], []) (HM q (addV V 42))) (RUN (d + 1) 164 (13, [sR 1 0, sI x1, sI (i + 1)], []) (HM q (addV V 46))) = RUN (d + 1) 164 (13, [sR 1 0, sI x1, sI (i + 1)], []) (HM q (addV V (patC x1 i))) := by
        unfold patC
        refine cif_eq (fun c => ?_) (fun c => ?_)
        · rw [cif_pos c]
        · rw [cif_neg c]
      refine (e.trans w3).trans ?_
      show rI ((L.length + 1 + k : Nat) : Int) (HM q W) = rI ((L.length + (k + 1) : Nat) : Int) (HM q W)
      rw [show L.length + 1 + k = L.length + (k + 1) by omega]
theorem s_164 {d : Nat} {q : QQ} {V : VV} {x1 : Int} (ok : outok V) (h : R32 x1) :
    (¬ (0 ≤ x1 ∧ x1 < 256) ∧ RUN (d + 1) 164 (am_en 164 [aR 1 0, aI (iI x1)]) (HM q V) = rX 0 (HM (thr q) V)) ∨
    ((0 ≤ x1 ∧ x1 < 256) ∧ ∃ W, offO V W ∧ outIs W (sg (patC x1) 0 8) ∧ RUN (d + 1) 164 (am_en 164 [aR 1 0, aI (iI x1)]) (HM q V) = rI 8 (HM q W)) := by
  have e0 := g_164_0 (d := d) (q := q) ok h
  by_cases c : 0 ≤ x1 ∧ x1 < 256
  · obtain ⟨W, w1, w2, w3⟩ := pat_go (d := d) (q := q) (x1 := x1) 8 0 (upV V 31 0 1 0) [] (out_clr V) (by decide) (by decide) (by decide)
    rw [cif_neg (by omega), cif_pos c.2] at e0
    exact Or.inr ⟨c, W, offO_trans (offO_clr V) w1, w2, e0.trans w3⟩
  · refine Or.inl ⟨c, e0.trans ?_⟩
    refine cif_eq (fun _ => rfl) (fun c2 => ?_)
    exact cif_neg (by omega)
theorem pD_b {V : VV} {x1 x2 : Int} (rk : rowok V) (rl : relok V) (p1 : 0 ≤ x1 ∧ x1 < V 2 0 8) (p2 : 0 ≤ x2 ∧ x2 < V 2 0 8) (hR : pR V x1 x2) : 0 ≤ pD V x1 x2 ∧ pD V x1 x2 < 1000 := by
  have hn := rk_n rk
  obtain ⟨hs, hc, hbc⟩ := settle_sp rk rl p2
  obtain ⟨c1, c2, c3⟩ := hc x1 p1
  obtain ⟨c4, c5, c6, c7⟩ := c3 (c1.mpr hR)
  have hD0 := hs.2.2.2 x1 p1 hR
  unfold pD
  omega
theorem numL_1 {n : Int} (h : n < 10) : (numL n).length = 1 := by
  unfold numL
  rw [cif_pos (by omega), cif_pos h]
  rfl
/-- the towers of a relay, as they are written -/
noncomputable def relL (P : Nat → Int) : Nat → List Int
  | 0 => []
  | k + 1 => relL P k ++ (cif (k = 0) [] [62] ++ numL (P k))
theorem relL_len {P : Nat → Int} : ∀ k : Nat, (∀ i : Nat, i < k → P i < 10) → (relL P k).length ≤ 2 * k := by
  intro k
  induction k with
  | zero => intro _; exact Nat.le_refl _
  | succ k ih =>
    intro h
    have h1 := ih (fun i hi => h i (by omega))
    have h2 := numL_1 (h k (by omega))
    show (relL P k ++ (cif (k = 0) [] [62] ++ numL (P k))).length ≤ _
    rw [List.length_append, List.length_append, h2]
    by_cases z : k = 0
    · rw [cif_pos z]; show _ + (0 + 1) ≤ _; omega
    · rw [cif_neg z]; show _ + (1 + 1) ≤ _; omega
