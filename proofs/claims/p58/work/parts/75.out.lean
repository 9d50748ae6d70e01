/-! the output buffer -/
def outok (V : VV) : Prop := 0 ≤ V 31 0 1 ∧ V 31 0 1 ≤ 32
/-- the output of W in V -/
def outOf (V W : VV) : VV := setA (setA V 31 0 (W 31 0)) 32 0 (W 32 0)
theorem outOf_eq {V W : VV} (h : ∀ a b, ¬ ((a = 31 ∨ a = 32) ∧ b = 0) → W a b = V a b) : outOf V W = W := by
  funext a b
  by_cases k : a = 32 ∧ b = 0
  · rw [k.1, k.2]; rfl
  · unfold outOf
    rw [setA_off (by omega)]
    by_cases k2 : a = 31 ∧ b = 0
    · rw [k2.1, k2.2]; rfl
    · rw [setA_off (by omega), h a b (by omega)]
/-- a character is added to the output, if there is room -/
noncomputable def addU (V : VV) (c : Int) : VV := cif (32 ≤ V 31 0 1) V (upV (upV V 31 0 1 (V 31 0 1 + 1)) 32 0 (V 31 0 1) c)
theorem addU_off {V : VV} {c : Int} {a b : Nat} (h : ¬ ((a = 31 ∨ a = 32) ∧ b = 0)) : addU V c a b = V a b := by
  by_cases k : 32 ≤ V 31 0 1
  · rw [show addU V c = V from cif_pos k]
  · rw [show addU V c = _ from cif_neg k, upV_off2 (by omega), upV_off2 (by omega)]
noncomputable def addV (V : VV) (c : Int) : VV := outOf V (addU V c)
theorem addV_eq (V : VV) (c : Int) : addV V c = addU V c := outOf_eq (fun _ _ h => addU_off h)
theorem addV_pos {V : VV} {c : Int} (h : 32 ≤ V 31 0 1) : addV V c = V := (addV_eq V c).trans (cif_pos h)
theorem addV_neg {V : VV} {c : Int} (h : ¬ 32 ≤ V 31 0 1) : addV V c = upV (upV V 31 0 1 (V 31 0 1 + 1)) 32 0 (V 31 0 1) c := (addV_eq V c).trans (cif_neg h)
theorem addV_off {V : VV} {c : Int} {a b : Nat} (h : ¬ ((a = 31 ∨ a = 32) ∧ b = 0)) : addV V c a b = V a b := by rw [addV_eq, addU_off h]
theorem outok_add {V : VV} {c : Int} (h : outok V) : outok (addV V c) := by
  unfold outok at h
  by_cases k : 32 ≤ V 31 0 1
  · rw [addV_pos k]; exact h
  · rw [addV_neg k]
    show 0 ≤ V 31 0 1 + 1 ∧ V 31 0 1 + 1 ≤ 32
    omega
theorem outok_set {V : VV} {z : Int} (h : 0 ≤ z ∧ z ≤ 32) : outok (upV V 31 0 1 z) := h
theorem s_160 {d : Nat} {q : QQ} {V : VV} {x1 : Int} (ok : outok V) (hx : 0 ≤ x1 ∧ x1 < 65536) : RUN d 160 (am_en 160 [aR 31 0, aI (iI x1)]) (HM q V) = rV (HM q (addV V x1)) := by
  have h1 : 0 ≤ V 31 0 1 ∧ V 31 0 1 ≤ 32 := ok
  rw [e_160 (by constructor <;> omega) (fun c => by omega) (fun _ => hx)]
  refine cif_eq (fun c => ?_) (fun c => ?_)
  · rw [addV_pos c]
  · rw [addV_neg c]
/-- what stands in the output -/
def outIs (V : VV) (L : List Int) : Prop := V 31 0 1 = L.length ∧ L.length ≤ 32 ∧ ∀ i : Nat, i < L.length → L[i]? = some (V 32 0 i)
theorem out_clr (V : VV) : outIs (upV V 31 0 1 0) [] := ⟨rfl, by decide, fun i h => absurd h (Nat.not_lt_zero i)⟩
theorem out_add {V : VV} {L : List Int} {c : Int} (h : outIs V L) (hl : L.length < 32) : outIs (addV V c) (L ++ [c]) := by
  obtain ⟨h1, h2, h3⟩ := h
  rw [addV_neg (by omega)]
  refine ⟨?_, ?_, fun i hi => ?_⟩
  · rw [List.length_append]
    show V 31 0 1 + 1 = ((L.length + 1 : Nat) : Int)
    omega
  · rw [List.length_append]
    show L.length + 1 ≤ 32
    omega
  · rw [List.length_append] at hi
    have hi2 : i < L.length + 1 := hi
    show _ = some (if (i : Int) = V 31 0 1 then c else V 32 0 i)
    by_cases e : i = L.length
    · rw [if_pos (by omega), List.getElem?_append_right (by omega), e, Nat.sub_self]
      rfl
    · rw [if_neg (by omega), List.getElem?_append_left (by omega)]
      exact h3 i (by omega)
