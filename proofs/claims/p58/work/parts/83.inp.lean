/-! the input: what is here -/
def inok (V : VV) : Prop := (0 ≤ V 27 0 4 ∧ V 27 0 4 ≤ 60) ∧ (0 ≤ V 27 0 5 ∧ V 27 0 5 ≤ 60) ∧ (0 ≤ V 27 0 6 ∧ V 27 0 6 ≤ 10) ∧ (0 ≤ V 27 0 3 ∧ V 27 0 3 ≤ 30) ∧ ∀ j, 0 ≤ j ∧ j < 60 → 0 ≤ V 28 0 j ∧ V 28 0 j ≤ 65535
/-- the character c is here -/
def hereP (V : VV) (c : Int) : Prop := V 27 0 5 < V 27 0 4 ∧ V 28 0 (V 27 0 5) = c
/-- a character from a to b is here -/
def betwP (V : VV) (a b : Int) : Prop := V 27 0 5 < V 27 0 4 ∧ a ≤ V 28 0 (V 27 0 5) ∧ V 28 0 (V 27 0 5) ≤ b
theorem s_180 {d : Nat} {q : QQ} {V : VV} {x1 : Int} (io : inok V) (h : R32 x1) : RUN d 180 (am_en 180 [aR 27 0, aI (iI x1)]) (HM q V) = rI (b2i (hereP V x1)) (HM q V) := by
  obtain ⟨h1, h2, h3, h4, h5⟩ := io
  rw [e_180 (by constructor <;> omega) (by constructor <;> omega) (fun c => by omega) (fun c => by have := h5 (V 27 0 5) (by omega); constructor <;> omega) h]
  refine cif_eq (fun c => ?_) (fun c => cif_eq (fun c2 => ?_) (fun c2 => ?_))
  · rw [b2i_neg (fun z => by have := z.1; omega)]
  · rw [b2i_pos ⟨by omega, c2⟩]
  · rw [b2i_neg (fun z => c2 z.2)]
theorem s_185 {d : Nat} {q : QQ} {V : VV} {x1 x2 : Int} (io : inok V) (h : R32 x1) (h' : R32 x2) : RUN d 185 (am_en 185 [aR 27 0, aI (iI x1), aI (iI x2)]) (HM q V) = rI (b2i (betwP V x1 x2)) (HM q V) := by
  obtain ⟨h1, h2, h3, h4, h5⟩ := io
  rw [e_185 (by constructor <;> omega) (by constructor <;> omega) (fun c => by omega) (fun c => by have := h5 (V 27 0 5) (by omega); constructor <;> omega) h h']
  refine cif_eq (fun c => ?_) (fun c => cif_eq (fun c2 => ?_) (fun c2 => cif_eq (fun c3 => ?_) (fun c3 => ?_)))
  · rw [b2i_neg (fun z => by have := z.1; omega)]
  · rw [b2i_neg (fun z => by have := z.2.1; omega)]
  · rw [b2i_neg (fun z => by have := z.2.2; omega)]
  · rw [b2i_pos ⟨by omega, by omega, by omega⟩]
