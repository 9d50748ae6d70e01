/-! the output buffer -/
def outok (V : VV) : Prop := 0 ≤ V 31 0 1 ∧ V 31 0 1 ≤ 32
/-- a character is added to the output, if there is room -/
noncomputable def addV (V : VV) (c : Int) : VV := cif (32 ≤ V 31 0 1) V (upV (upV V 31 0 1 (V 31 0 1 + 1)) 32 0 (V 31 0 1) c)
theorem addV_pos {V : VV} {c : Int} (h : 32 ≤ V 31 0 1) : addV V c = V := cif_pos h
theorem addV_neg {V : VV} {c : Int} (h : ¬ 32 ≤ V 31 0 1) : addV V c = upV (upV V 31 0 1 (V 31 0 1 + 1)) 32 0 (V 31 0 1) c := cif_neg h
theorem outok_add {V : VV} {c : Int} (h : outok V) : outok (addV V c) := by
  unfold outok at h
  by_cases k : 32 ≤ V 31 0 1
  · rw [addV_pos k]; exact h
  · rw [addV_neg k]
    show 0 ≤ V 31 0 1 + 1 ∧ V 31 0 1 + 1 ≤ 32
    omega
theorem outok_set {V : VV} {z : Int} (h : 0 ≤ z ∧ z ≤ 32) : outok (upV V 31 0 1 z) := h
theorem s_160 {d : Nat} {q : QQ} {V : VV} {x1 : Int} (ok : outok V) (hx : 0 ≤ x1 ∧ x1 < 65536) : RUN d 160 (am_en 160 [aR 31 0, aI (iI x1)]) (HM q V) = rV (HM q (addV V x1)) := by
  have h1 : 0 ≤ V 31 0 1 ∧ V 31 0 1 ≤ 32 := ok
  rw [e_160 (by constructor <;> omega) (fun c => by omega) (fun _ => hx)]
  refine cif_eq (fun c => ?_) (fun c => ?_)
  · rw [addV_pos c]
  · rw [addV_neg c]
theorem addV_off {V : VV} {c : Int} {a b : Nat} (h : ¬ (31 ≤ a ∧ a ≤ 32)) : addV V c a b = V a b := by
  by_cases k : 32 ≤ V 31 0 1
  · rw [addV_pos k]
  · rw [addV_neg k, upV_off2 (by omega), upV_off2 (by omega)]
/-- what stands in the output -/
def outIs (V : VV) (L : List Int) : Prop := V 31 0 1 = L.length ∧ L.length ≤ 32 ∧ ∀ i : Nat, i < L.length → L[i]? = some (V 32 0 i)
theorem out_clr (V : VV) : outIs (upV V 31 0 1 0) [] := ⟨rfl, by decide, fun i h => absurd h (Nat.not_lt_zero i)⟩
theorem out_add {V : VV} {L : List Int} {c : Int} (h : outIs V L) (hl : L.length < 32) : outIs (addV V c) (L ++ [c]) := by
  obtain ⟨h1, h2, h3⟩ := h
  rw [addV_neg (by omega)]
  refine ⟨?_, ?_, fun i hi => ?_⟩
  · rw [List.length_append]
    show V 31 0 1 + 1 = ((L.length + 1 : Nat) : Int)
    omega
  · rw [List.length_append]
    show L.length + 1 ≤ 32
    omega
  · rw [List.length_append] at hi
    have hi2 : i < L.length + 1 := hi
    show _ = some (if (i : Int) = V 31 0 1 then c else V 32 0 i)
    by_cases e : i = L.length
    · rw [if_pos (by omega), List.getElem?_append_right (by omega), e, Nat.sub_self]
      rfl
    · rw [if_neg (by omega), List.getElem?_append_left (by omega)]
      exact h3 i (by omega)
