/-! what is written -/
def offO (V W : VV) : Prop := ∀ a b, ¬ ((a = 31 ∨ a = 32) ∧ b = 0) → W a b = V a b
theorem offO_refl (V : VV) : offO V V := fun _ _ _ => rfl
theorem offO_trans {V W U : VV} (h : offO V W) (h2 : offO W U) : offO V U := fun a b z => (h2 a b z).trans (h a b z)
theorem offO_add (V : VV) (c : Int) : offO V (addV V c) := fun _ _ h => addV_off h
theorem offO_num (V : VV) (c : Int) : offO V (numV V c) := fun _ _ h => numV_off h
theorem offO_clr (V : VV) : offO V (upV V 31 0 1 0) := fun a b h => upV_off2 (by omega)
theorem rowok_offO {V W : VV} (h : offO V W) (rk : rowok V) : rowok W := rowB_off (fun a _ _ => h a 0 (by omega)) rk
theorem outok_is {V : VV} {L : List Int} (h : outIs V L) : outok V := by
  obtain ⟨h1, h2, _⟩ := h
  unfold outok
  omega
theorem write_go {d : Nat} {q : QQ} {x1 : Int} (p : 0 ≤ x1 ∧ x1 < 8) : ∀ (k : Nat) (i : Int) (V : VV) (L : List Int), rowok V → outIs V L → 0 ≤ i → i + k = V 8 0 x1 → L.length + k ≤ 32 →
    ∃ W, offO V W ∧ outIs W (L ++ sg (V 9 0) (x1 * 8 + i) k) ∧ RUN (d + 2) 157 (101, [sR 1 0, sI x1, sI i], []) (HM q V) = rI (L.length + k : Nat) (HM q W) := by
  intro k
  induction k with
  | zero =>
    intro i V L rk ho h0 hi hl
    have hn := rk_8 rk p
    refine ⟨V, offO_refl V, ?_, ?_⟩
    · show outIs V (L ++ [])
      rw [List.append_nil]
      exact ho
    · rw [g_157_101 rk (outok_is ho) p (by constructor <;> omega) (fun _ => by omega), cif_pos (by omega), ho.1]
      rfl
  | succ k ih =>
    intro i V L rk ho h0 hi hl
    have hn := rk_8 rk p
    have hb := rk_9 rk (j := x1 * 8 + i) (by omega)
    have e0 : V 9 0 (x1 * 8 + i) % 65536 = V 9 0 (x1 * 8 + i) := by omega
    have o1 := offO_add V (V 9 0 (x1 * 8 + i))
    have h2 := out_add (c := V 9 0 (x1 * 8 + i)) ho (by omega)
    obtain ⟨W, w1, w2, w3⟩ := ih (i + 1) (addV V (V 9 0 (x1 * 8 + i))) (L ++ [V 9 0 (x1 * 8 + i)]) (rowok_offO o1 rk) h2 (by omega) (by rw [o1 8 0 (by omega)]; omega) (by rw [List.length_append]; show L.length + 1 + k ≤ 32; omega)
    refine ⟨W, offO_trans o1 w1, ?_, ?_⟩
    · rw [o1 9 0 (by omega), List.append_assoc, show x1 * 8 + (i + 1) = x1 * 8 + i + 1 by omega] at w2
      exact w2
    · rw [g_157_101 rk (outok_is ho) p (by constructor <;> omega) (fun _ => by omega), cif_neg (by omega), e0]
      rw [List.length_append] at w3
      refine w3.trans ?_
      show rI ((L.length + 1 + k : Nat) : Int) (HM q W) = rI ((L.length + (k + 1) : Nat) : Int) (HM q W)
      rw [show L.length + 1 + k = L.length + (k + 1) by omega]
/-- the text of a tower -/
noncomputable def twrL (V : VV) (t : Int) : List Int := numL (V 4 0 t) ++ [43] ++ numL (V 5 0 t) ++ [33] ++ numL (V 6 0 t) ++ cif (V 8 0 t ≤ 0) [] [58] ++ sg (V 9 0) (t * 8 + 0) (V 8 0 t).toNat
theorem s_157 {d : Nat} {q : QQ} {V : VV} {x1 : Int} (rk : rowok V) (ok : outok V) (h : R32 x1) :
    (¬ (0 ≤ x1 ∧ x1 < V 2 0 8) ∧ RUN (d + 2) 157 (am_en 157 [aR 1 0, aI (iI x1)]) (HM q V) = rX 2 (HM (thr q) V)) ∨
    ((0 ≤ x1 ∧ x1 < V 2 0 8) ∧ ∃ W, offO V W ∧ outIs W (twrL V x1) ∧ RUN (d + 2) 157 (am_en 157 [aR 1 0, aI (iI x1)]) (HM q V) = rI (twrL V x1).length (HM q W)) := by
  by_cases c : 0 ≤ x1 ∧ x1 < V 2 0 8
  · refine Or.inr ⟨c, ?_⟩
    have hn := rk_n rk
    have p : 0 ≤ x1 ∧ x1 < 8 := by omega
    have h4 := rk_4 rk p
    have h5 := rk_5 rk p
    have h6 := rk_6 rk p
    have h8 := rk_8 rk p
    have i0 := out_clr V
    have l4 := numL_len (n := V 4 0 x1)
    have l5 := numL_len (n := V 5 0 x1)
    have l6 := numL_len (n := V 6 0 x1)
    have i1 := out_num (n := V 4 0 x1) i0 (by decide) h4.1
    have i2 := out_add (c := 43) i1 (by rw [List.nil_append]; omega)
    have i3 := out_num (n := V 5 0 x1) i2 (by rw [List.length_append, List.nil_append]; show (numL (V 4 0 x1)).length + 1 + 3 ≤ 32; omega) h5.1
    have i4 := out_add (c := 33) i3 (by rw [List.length_append, List.length_append, List.nil_append]; show (numL (V 4 0 x1)).length + 1 + _ < 32; omega)
    have i5 := out_num (n := V 6 0 x1) i4 (by rw [List.length_append, List.length_append, List.length_append, List.nil_append]; show (numL (V 4 0 x1)).length + 1 + (numL (V 5 0 x1)).length + 1 + 3 ≤ 32; omega) h6.1
    rw [List.nil_append] at i5
    have o5 : offO V (numV (addV (numV (addV (numV (upV V 31 0 1 0) (V 4 0 x1)) 43) (V 5 0 x1)) 33) (V 6 0 x1)) :=
      offO_trans (offO_clr V) (offO_trans (offO_num _ _) (offO_trans (offO_add _ _) (offO_trans (offO_num _ _) (offO_trans (offO_add _ _) (offO_num _ _)))))
    have hlen : (numL (V 4 0 x1) ++ [43] ++ numL (V 5 0 x1) ++ [33] ++ numL (V 6 0 x1)).length ≤ 11 := by
      rw [List.length_append, List.length_append, List.length_append, List.length_append]
      show (numL (V 4 0 x1)).length + 1 + (numL (V 5 0 x1)).length + 1 + _ ≤ 11
      omega
    rw [g_157_0 rk ok h, cif_pos c]
    unfold twrL
    generalize numL (V 4 0 x1) ++ [43] ++ numL (V 5 0 x1) ++ [33] ++ numL (V 6 0 x1) = L at i5 hlen
    generalize numV (addV (numV (addV (numV (upV V 31 0 1 0) (V 4 0 x1)) 43) (V 5 0 x1)) 33) (V 6 0 x1) = U at i5 o5
    have e8 : U 8 0 = V 8 0 := o5 8 0 (by omega)
    have e9 : U 9 0 = V 9 0 := o5 9 0 (by omega)
    by_cases z : V 8 0 x1 ≤ 0
    · rw [cif_pos z, cif_pos z, List.append_nil]
      obtain ⟨W, w1, w2, w3⟩ := write_go (d := d) (q := q) p (V 8 0 x1).toNat 0 U L (rowok_offO o5 rk) i5 (Int.le_refl _) (by rw [e8]; omega) (by omega)
      rw [e9] at w2
      refine ⟨W, offO_trans o5 w1, w2, ?_⟩
      rw [List.length_append, sg_len]
      exact w3
    · rw [cif_neg z, cif_neg z]
      have i6 := out_add (c := 58) i5 (by omega)
      have o6 := offO_add U 58
      obtain ⟨W, w1, w2, w3⟩ := write_go (d := d) (q := q) p (V 8 0 x1).toNat 0 (addV U 58) (L ++ [58]) (rowok_offO (offO_trans o5 o6) rk) i6 (Int.le_refl _) (by rw [o6 8 0 (by omega), e8]; omega) (by rw [List.length_append]; show L.length + 1 + _ ≤ 32; omega)
      rw [o6 9 0 (by omega), e9] at w2
      refine ⟨W, offO_trans (offO_trans o5 o6) w1, w2, ?_⟩
      rw [List.length_append (as := L ++ [58]), sg_len]
      exact w3
  · refine Or.inl ⟨c, ?_⟩
    rw [g_157_0 rk ok h]
    exact cif_neg c
