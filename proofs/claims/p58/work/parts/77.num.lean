/-! a number is written -/
noncomputable def numW (V : VV) (n : Int) : VV := cif (n < 100) V (addV V (48 + n / 100))
noncomputable def numU (V : VV) (n : Int) : VV := cif (n < 10) (addV (numW V n) (48 + n % 10)) (addV (addV (numW V n) (48 + n / 10 % 10)) (48 + n % 10))
noncomputable def numV (V : VV) (n : Int) : VV := outOf V (numU V n)
theorem numU_off {V : VV} {n : Int} {a b : Nat} (h : ¬ ((a = 31 ∨ a = 32) ∧ b = 0)) : numU V n a b = V a b := by
  have h1 : numW V n a b = V a b := by
    unfold numW
    by_cases k : n < 100
    · rw [cif_pos k]
    · rw [cif_neg k]; exact addV_off h
  unfold numU
  by_cases k : n < 10
  · rw [cif_pos k, addV_off h, h1]
  · rw [cif_neg k, addV_off h, addV_off h, h1]
theorem numV_eq (V : VV) (n : Int) : numV V n = numU V n := outOf_eq (fun _ _ h => numU_off h)
noncomputable def numL (n : Int) : List Int := cif (n < 100) (cif (n < 10) [48 + n % 10] [48 + n / 10 % 10, 48 + n % 10]) [48 + n / 100, 48 + n / 10 % 10, 48 + n % 10]
theorem outok_num {V : VV} {n : Int} (h : outok V) : outok (numV V n) := by
  have h1 : outok (numW V n) := by
    unfold numW
    by_cases k : n < 100
    · rw [cif_pos k]; exact h
    · rw [cif_neg k]; exact outok_add h
  rw [numV_eq]
  unfold numU
  by_cases k : n < 10
  · rw [cif_pos k]; exact outok_add h1
  · rw [cif_neg k]; exact outok_add (outok_add h1)
theorem s_159 {d : Nat} {q : QQ} {V : VV} {x1 : Int} (ok : outok V) (p : 0 ≤ x1 ∧ x1 < 1000) : RUN (d + 1) 159 (am_en 159 [aR 31 0, aI (iI x1)]) (HM q V) = rV (HM q (numV V x1)) := by
  have e1 : (48 + x1 / 100) % 65536 = 48 + x1 / 100 := by omega
  have e2 : (48 + x1 / 10 % 10) % 65536 = 48 + x1 / 10 % 10 := by omega
  have e3 : (48 + x1 % 10) % 65536 = 48 + x1 % 10 := by omega
  have key : ∀ W, outok W → RUN (d + 1) 159 (18, [sR 31 0, sI x1], []) (HM q W) = rV (HM q (cif (x1 < 10) (addV W (48 + x1 % 10)) (addV (addV W (48 + x1 / 10 % 10)) (48 + x1 % 10)))) := by
    intro W hW
    rw [g_159_18 hW p, e2, e3]
    refine cif_eq (fun c => ?_) (fun c => ?_)
    · rw [cif_pos c]
    · rw [cif_neg c]
  rw [g_159_0 ok p, e1]
  rw [numV_eq]
  unfold numU numW
  refine cif_eq (fun c => ?_) (fun c => ?_)
  · rw [cif_pos c, key V ok]
  · rw [cif_neg c, key _ (outok_add ok)]
theorem out_num {V : VV} {n : Int} {L : List Int} (h : outIs V L) (hl : L.length + 3 ≤ 32) (hn : 0 ≤ n) : outIs (numV V n) (L ++ numL n) := by
  rw [numV_eq]
  unfold numU numW numL
  by_cases k : n < 100
  · rw [cif_pos k, cif_pos k]
    by_cases k2 : n < 10
    · rw [cif_pos k2, cif_pos k2]
      exact out_add h (by omega)
    · rw [cif_neg k2, cif_neg k2]
      have := out_add (c := 48 + n % 10) (out_add (c := 48 + n / 10 % 10) h (by omega)) (by rw [List.length_append]; show L.length + 1 < 32; omega)
      rw [List.append_assoc] at this
      exact this
  · rw [cif_neg k, cif_neg k, cif_neg (show ¬ n < 10 by omega)]
    have h1 := out_add (c := 48 + n / 100) h (by omega)
    have h2 := out_add (c := 48 + n / 10 % 10) h1 (by rw [List.length_append]; show L.length + 1 < 32; omega)
    have h3 := out_add (c := 48 + n % 10) h2 (by rw [List.length_append, List.length_append]; show L.length + 1 + 1 < 32; omega)
    rw [List.append_assoc, List.append_assoc] at h3
    exact h3
theorem numV_off {V : VV} {n : Int} {a b : Nat} (h : ¬ ((a = 31 ∨ a = 32) ∧ b = 0)) : numV V n a b = V a b := by
  rw [numV_eq, numU_off h]
theorem numL_len {n : Int} : (numL n).length ≤ 3 := by
  unfold numL
  by_cases k : n < 100
  · rw [cif_pos k]
    by_cases k2 : n < 10
    · rw [cif_pos k2]; show 1 ≤ 3; decide
    · rw [cif_neg k2]; show 2 ≤ 3; decide
  · rw [cif_neg k]; show 3 ≤ 3; decide
