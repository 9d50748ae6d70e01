/-! choices; the rows of RUN that go on with them -/
noncomputable def cif {α : Type} (P : Prop) (a b : α) : α := @ite _ P (Classical.propDecidable P) a b
theorem cif_pos {α : Type} {P : Prop} {a b : α} (h : P) : cif P a b = a := @if_pos _ (Classical.propDecidable P) h _ _ _
theorem cif_neg {α : Type} {P : Prop} {a b : α} (h : ¬ P) : cif P a b = b := @if_neg _ (Classical.propDecidable P) h _ _ _
theorem k_cifs {α : Type} {P : Prop} {a b a' b' : α} (h1 : P → a = a') (h2 : ¬ P → b = b') : cif P a b = cif P a' b' := by
  by_cases h : P
  · rw [cif_pos h, cif_pos h, h1 h]
  · rw [cif_neg h, cif_neg h, h2 h]
theorem k_split {α : Type} {a b1 b2 : α} (P : Prop) (h1 : P → a = b1) (h2 : ¬ P → a = b2) : a = cif P b1 b2 := by
  by_cases h : P
  · rw [cif_pos h, h1 h]
  · rw [cif_neg h, h2 h]
theorem cif_same {α : Type} {P : Prop} {a : α} : cif P a a = a := by
  by_cases h : P
  · rw [cif_pos h]
  · rw [cif_neg h]
/-- to show what a choice is, show it on both ways -/
theorem cif_eq {α : Type} {P : Prop} {a b c : α} (h1 : P → a = c) (h2 : ¬ P → b = c) : cif P a b = c := by
  by_cases h : P
  · rw [cif_pos h, h1 h]
  · rw [cif_neg h, h2 h]
theorem cif_iff {α : Type} {P Q : Prop} {a b : α} (h : P ↔ Q) : cif P a b = cif Q a b := by rw [propext h]
noncomputable def b2i (P : Prop) : Int := cif P 1 0
theorem b2i_pos {P : Prop} (h : P) : b2i P = 1 := cif_pos h
theorem b2i_neg {P : Prop} (h : ¬ P) : b2i P = 0 := cif_neg h
theorem b2i_01 (P : Prop) : b2i P = 0 ∨ b2i P = 1 := by
  by_cases h : P
  · exact Or.inr (b2i_pos h)
  · exact Or.inl (b2i_neg h)
theorem b2i_R (P : Prop) : R32 (b2i P) := by rcases b2i_01 P with h | h <;> rw [h] <;> exact ⟨by decide, by decide⟩
theorem b2i_iff {P Q : Prop} (h : P ↔ Q) : b2i P = b2i Q := by rw [propext h]
theorem b2i_z {P : Prop} : b2i P = 0 ↔ ¬ P := by
  constructor
  · intro h hp
    rw [b2i_pos hp] at h
    cases h
  · exact b2i_neg
theorem b2i_o {P : Prop} : b2i P = 1 ↔ P := by
  constructor
  · intro h
    exact Classical.byContradiction fun hp => by rw [b2i_neg hp] at h; cases h
  · exact b2i_pos
theorem b2i_eq0 {P : Prop} : iI (b2i P) = 0 ↔ ¬ P := (iI_eq0 (b2i_R P)).trans b2i_z
theorem b2i_ne0 {P : Prop} : iI (b2i P) ≠ 0 ↔ P := by
  constructor
  · intro h
    exact Classical.byContradiction fun hp => h (b2i_eq0.mpr hp)
  · intro hp h
    exact b2i_eq0.mp h hp
section
variable {d y pc nx : Nat} {ls : List (Option AV)} {st : List AV} {h : AH} {q : QQ} {V : VV}
theorem k_icmpc {tgt : Nat} {c : Int32 → Int32 → Prop} {dc : ∀ a b, Decidable (c a b)} {a b : Int} (P : Prop) (hcd : am_cd y pc = i_icmp c dc tgt nx) (hP : c (iI a) (iI b) ↔ P) : RUN d y (pc, ls, aI (iI b) :: aI (iI a) :: st) h = cif P (RUN d y (tgt, ls, st) h) (RUN d y (nx, ls, st) h) := by
  rw [RUN_gi (fr' := (@ite _ (c (iI a) (iI b)) (dc (iI a) (iI b)) tgt nx, ls, st)) (h' := h) (cs := []) hcd rfl trivial]
  by_cases hp : P
  · rw [cif_pos hp, if_pos (hP.mpr hp)]
  · rw [cif_neg hp, if_neg (fun z => hp (hP.mp z))]
theorem k_icmpcN {tgt : Nat} {c : Int32 → Int32 → Prop} {dc : ∀ a b, Decidable (c a b)} {a b : Int} (P : Prop) (hcd : am_cd y pc = i_icmp c dc tgt nx) (hP : c (iI a) (iI b) ↔ ¬ P) : RUN d y (pc, ls, aI (iI b) :: aI (iI a) :: st) h = cif P (RUN d y (nx, ls, st) h) (RUN d y (tgt, ls, st) h) := by
  rw [RUN_gi (fr' := (@ite _ (c (iI a) (iI b)) (dc (iI a) (iI b)) tgt nx, ls, st)) (h' := h) (cs := []) hcd rfl trivial]
  by_cases hp : P
  · rw [cif_pos hp, if_neg (fun z => hP.mp z hp)]
  · rw [cif_neg hp, if_pos (hP.mpr hp)]
theorem k_ifc {tgt : Nat} {c : Int32 → Prop} {dc : ∀ a, Decidable (c a)} {a : Int} (P : Prop) (hcd : am_cd y pc = i_if c dc tgt nx) (hP : c (iI a) ↔ P) : RUN d y (pc, ls, aI (iI a) :: st) h = cif P (RUN d y (tgt, ls, st) h) (RUN d y (nx, ls, st) h) := by
  rw [RUN_gi (fr' := (@ite _ (c (iI a)) (dc (iI a)) tgt nx, ls, st)) (h' := h) (cs := []) hcd rfl trivial]
  by_cases hp : P
  · rw [cif_pos hp, if_pos (hP.mpr hp)]
  · rw [cif_neg hp, if_neg (fun z => hp (hP.mp z))]
theorem k_ifcN {tgt : Nat} {c : Int32 → Prop} {dc : ∀ a, Decidable (c a)} {a : Int} (P : Prop) (hcd : am_cd y pc = i_if c dc tgt nx) (hP : c (iI a) ↔ ¬ P) : RUN d y (pc, ls, aI (iI a) :: st) h = cif P (RUN d y (nx, ls, st) h) (RUN d y (tgt, ls, st) h) := by
  rw [RUN_gi (fr' := (@ite _ (c (iI a)) (dc (iI a)) tgt nx, ls, st)) (h' := h) (cs := []) hcd rfl trivial]
  by_cases hp : P
  · rw [cif_pos hp, if_neg (fun z => hP.mp z hp)]
  · rw [cif_neg hp, if_pos (hP.mpr hp)]
theorem k_tsw {lo hi : Int} {tg : List Nat} {df n : Nat} {x : Int} (hcd : am_cd y pc = i_tsw lo hi tg df) (ht : am_tsw lo hi tg df (iI x) = n) : RUN d y (pc, ls, aI (iI x) :: st) h = RUN d y (n, ls, st) h := by
  subst ht
  exact RUN_gi (cs := []) hcd rfl trivial
theorem tsw_eq {lo hi : Int} {tg : List Nat} {df n : Nat} {x v : Int} (c : x = v) (h : am_tsw lo hi tg df (iI v) = n) : am_tsw lo hi tg df (iI x) = n := by rw [c]; exact h
theorem tsw_out {lo hi : Int} {tg : List Nat} {df : Nat} {x : Int} (hr : R32 x) (h : x < lo ∨ hi < x) : am_tsw lo hi tg df (iI x) = df := by
  unfold am_tsw
  rw [iI_to hr, if_pos h]
theorem k_lsw {ps : List (Int32 × Nat)} {df n : Nat} {x : Int} (hcd : am_cd y pc = i_lsw ps df) (ht : am_lsw ps df (iI x) = n) : RUN d y (pc, ls, aI (iI x) :: st) h = RUN d y (n, ls, st) h := by
  subst ht
  exact RUN_gi (cs := []) hcd rfl trivial
theorem lsw_eq {ps : List (Int32 × Nat)} {df n : Nat} {x v : Int} (c : x = v) (h : am_lsw ps df (iI v) = n) : am_lsw ps df (iI x) = n := by rw [c]; exact h
theorem lsw_no {ps : List (Int32 × Nat)} {df t : Nat} {v x : Int32} (h : ¬ x = v) : am_lsw ((v, t) :: ps) df x = am_lsw ps df x := if_neg h
/-- a part of a row copied -/
def cpV (V : VV) (a b a0 b0 : Nat) (sp dp n : Int) : VV := fun a' b' j => cond (Nat.beq a' a && Nat.beq b' b) (if dp ≤ j ∧ j < dp + n then V a0 b0 (sp + (j - dp)) else V a' b' j) (V a' b' j)
theorem lft_cp (V : VV) (a b a0 b0 : Nat) {sp dp n : Int} (h1 : 0 ≤ sp ∧ sp < 2147483648) (h2 : 0 ≤ dp ∧ dp < 2147483648) (h3 : 0 ≤ n ∧ n < 2147483648) : upA (lft V) a b (va_cpy (lft V a0 b0) (lft V a b) (iI sp).toNatClampNeg (iI dp).toNatClampNeg (iI n).toNatClampNeg) = lft (cpV V a b a0 b0 sp dp n) := by
  rw [iI_nat (by omega), iI_nat (by omega), iI_nat (by omega)]
  funext a' b' j
  unfold upA lft cpV
  cases ha : Nat.beq a' a with
  | false =>
    rw [if_neg (fun q => by rw [q.1, Nat.beq_refl] at ha; cases ha)]
    rfl
  | true =>
    cases hb : Nat.beq b' b with
    | false =>
      rw [if_neg (fun q => by rw [q.2, Nat.beq_refl] at hb; cases hb)]
      rfl
    | true =>
      have e1 := Nat.eq_of_beq_eq_true ha
      have e2 := Nat.eq_of_beq_eq_true hb
      subst e1 e2
      rw [if_pos ⟨rfl, rfl⟩]
      show va_cpy _ _ _ _ _ j = iI (if dp ≤ Int.ofNat j ∧ Int.ofNat j < dp + n then V a0 b0 (sp + (Int.ofNat j - dp)) else V a' b' (Int.ofNat j))
      have hj : Int.ofNat j = (j : Int) := rfl
      unfold va_cpy
      by_cases hc : dp ≤ Int.ofNat j ∧ Int.ofNat j < dp + n
      · rw [if_pos hc, if_pos (by omega)]
        have e : Int.ofNat (sp.toNat + (j - dp.toNat)) = sp + (Int.ofNat j - dp) := by
          show ((sp.toNat + (j - dp.toNat) : Nat) : Int) = _
          omega
        rw [← e]
      · rw [if_neg hc, if_neg (by omega)]
theorem k_acpy {a b a0 b0 n1 n0 : Nat} {g g0 : Nat → AV} {sp dp n : Int} (hcd : am_cd y pc = i_acpy nx) (hs : Nat.ble st.length 4 = true) (hS : am_S0 q.1.1 q.1.2 a b = some (Sum.inl (0, n1, g))) (hS0 : am_S0 q.1.1 q.1.2 a0 b0 = some (Sum.inl (0, n0, g0)))
    (h1 : 0 ≤ sp ∧ sp < 2147483648) (h2 : 0 ≤ dp ∧ dp < 2147483648) (h3 : 0 ≤ n ∧ n < 2147483648) (h4 : sp + n ≤ (n0 : Int)) (h5 : dp + n ≤ (n1 : Int)) :
    RUN d y (pc, ls, aI (iI n) :: aI (iI dp) :: aR a b :: aI (iI sp) :: aR a0 b0 :: st) (HM q V) = RUN d y (nx, ls, st) (HM q (cpV V a b a0 b0 sp dp n)) := by
  refine RUN_gi hcd (cs := [¬ iI sp < 0 ∧ ¬ iI dp < 0 ∧ ¬ iI n < 0 ∧ (iI sp).toNatClampNeg + (iI n).toNatClampNeg ≤ n0 ∧ (iI dp).toNatClampNeg + (iI n).toNatClampNeg ≤ n1]) ?_ ⟨⟨?_, ?_, ?_, ?_, ?_⟩, trivial⟩
  · show (match Nat.ble st.length 4, am_S0 q.1.1 q.1.2 a b, am_S0 q.1.1 q.1.2 a0 b0 with
      | true, some (Sum.inl (0, n1, _)), some (Sum.inl (0, n0, _)) => goC (¬ iI sp < 0 ∧ ¬ iI dp < 0 ∧ ¬ iI n < 0 ∧ (iI sp).toNatClampNeg + (iI n).toNatClampNeg ≤ n0 ∧ (iI dp).toNatClampNeg + (iI n).toNatClampNeg ≤ n1) nx ls st
          (am_S0 q.1.1 q.1.2, q.2.1, upA (lft V) a b (va_cpy (lft V a0 b0) (lft V a b) (iI sp).toNatClampNeg (iI dp).toNatClampNeg (iI n).toNatClampNeg), q.2.2)
      | _, _, _ => stuck) = _
    rw [hs, hS, hS0, lft_cp V a b a0 b0 h1 h2 h3]
    rfl
  · rw [iI_lt0 (by omega)]; omega
  · rw [iI_lt0 (by omega)]; omega
  · rw [iI_lt0 (by omega)]; omega
  · rw [iI_nat (by omega), iI_nat (by omega)]; omega
  · rw [iI_nat (by omega), iI_nat (by omega)]; omega
theorem qle.trans {a b c : QQ} (h : qle a b) (h2 : qle b c) : qle a c := ⟨Nat.le_trans h.1 h2.1, Nat.le_trans h.2 h2.2⟩
end
theorem okCh_of {z : Int} (h : 0 ≤ z ∧ z < 65536) : am_okCh (iI z) := iI_char h
theorem rI0_b {P : Prop} {h : AH} (hp : ¬ P) : rI 0 h = rI (b2i P) h := by rw [b2i_neg hp]
theorem rI1_b {P : Prop} {h : AH} (hp : P) : rI 1 h = rI (b2i P) h := by rw [b2i_pos hp]
