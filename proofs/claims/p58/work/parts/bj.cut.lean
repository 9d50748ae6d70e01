/-! the heap while its objects are being made -/
theorem beq_no {a b : Nat} (h : a ≠ b) : Nat.beq a b = false := by
  cases k : Nat.beq a b with
  | false => rfl
  | true => exact absurd (Nat.eq_of_beq_eq_true k) h
def xo (xs : Nat → Int32) : XS := (xs, fun _ => none)
def nbA (a : Nat) : Nat := [0, 1, 11, 11, 11, 11, 11, 11, 11, 11, 11, 1, 1, 1, 1, 1, 1, 8, 1, 8, 1, 1, 1, 1, 1, 1, 1, 1, 1, 1, 1, 1, 1, 0, 0, 0, 0, 0, 0, 0, 0, 0, 0, 0, 0, 0].getD a 0
theorem bnd_beq {b : Nat} {x : SC} (h : cond (Nat.beq b 0) x none ≠ none) : b < 1 := by
  cases k : Nat.beq b 0 with
  | true => have := Nat.eq_of_beq_eq_true k; omega
  | false => rw [k] at h; exact absurd rfl h
theorem bnd_blt {b n : Nat} {x : SC} (h : cond (Nat.blt b n) x none ≠ none) : b < n := by
  cases k : Nat.blt b n with
  | true => exact Nat.blt_eq.mp k
  | false => rw [k] at h; exact absurd rfl h
theorem S0b_1 {L : Nat} {xs : Nat → Int32} {b : Nat} (h : am_S0 L (xo xs) 1 b ≠ none) : b < 1 := bnd_beq h
theorem S0b_2 {L : Nat} {xs : Nat → Int32} {b : Nat} (h : am_S0 L (xo xs) 2 b ≠ none) : b < 11 := bnd_blt h
theorem S0b_3 {L : Nat} {xs : Nat → Int32} {b : Nat} (h : am_S0 L (xo xs) 3 b ≠ none) : b < 11 := bnd_blt h
theorem S0b_4 {L : Nat} {xs : Nat → Int32} {b : Nat} (h : am_S0 L (xo xs) 4 b ≠ none) : b < 11 := bnd_blt h
theorem S0b_5 {L : Nat} {xs : Nat → Int32} {b : Nat} (h : am_S0 L (xo xs) 5 b ≠ none) : b < 11 := bnd_blt h
theorem S0b_6 {L : Nat} {xs : Nat → Int32} {b : Nat} (h : am_S0 L (xo xs) 6 b ≠ none) : b < 11 := bnd_blt h
theorem S0b_7 {L : Nat} {xs : Nat → Int32} {b : Nat} (h : am_S0 L (xo xs) 7 b ≠ none) : b < 11 := bnd_blt h
theorem S0b_8 {L : Nat} {xs : Nat → Int32} {b : Nat} (h : am_S0 L (xo xs) 8 b ≠ none) : b < 11 := bnd_blt h
theorem S0b_9 {L : Nat} {xs : Nat → Int32} {b : Nat} (h : am_S0 L (xo xs) 9 b ≠ none) : b < 11 := bnd_blt h
theorem S0b_10 {L : Nat} {xs : Nat → Int32} {b : Nat} (h : am_S0 L (xo xs) 10 b ≠ none) : b < 11 := bnd_blt h
theorem S0b_11 {L : Nat} {xs : Nat → Int32} {b : Nat} (h : am_S0 L (xo xs) 11 b ≠ none) : b < 1 := bnd_beq h
theorem S0b_12 {L : Nat} {xs : Nat → Int32} {b : Nat} (h : am_S0 L (xo xs) 12 b ≠ none) : b < 1 := bnd_beq h
theorem S0b_13 {L : Nat} {xs : Nat → Int32} {b : Nat} (h : am_S0 L (xo xs) 13 b ≠ none) : b < 1 := bnd_beq h
theorem S0b_14 {L : Nat} {xs : Nat → Int32} {b : Nat} (h : am_S0 L (xo xs) 14 b ≠ none) : b < 1 := bnd_beq h
theorem S0b_15 {L : Nat} {xs : Nat → Int32} {b : Nat} (h : am_S0 L (xo xs) 15 b ≠ none) : b < 1 := bnd_beq h
theorem S0b_16 {L : Nat} {xs : Nat → Int32} {b : Nat} (h : am_S0 L (xo xs) 16 b ≠ none) : b < 1 := bnd_beq h
theorem S0b_17 {L : Nat} {xs : Nat → Int32} {b : Nat} (h : am_S0 L (xo xs) 17 b ≠ none) : b < 8 := bnd_blt h
theorem S0b_18 {L : Nat} {xs : Nat → Int32} {b : Nat} (h : am_S0 L (xo xs) 18 b ≠ none) : b < 1 := bnd_beq h
theorem S0b_19 {L : Nat} {xs : Nat → Int32} {b : Nat} (h : am_S0 L (xo xs) 19 b ≠ none) : b < 8 := bnd_blt h
theorem S0b_20 {L : Nat} {xs : Nat → Int32} {b : Nat} (h : am_S0 L (xo xs) 20 b ≠ none) : b < 1 := bnd_beq h
theorem S0b_21 {L : Nat} {xs : Nat → Int32} {b : Nat} (h : am_S0 L (xo xs) 21 b ≠ none) : b < 1 := bnd_beq h
theorem S0b_22 {L : Nat} {xs : Nat → Int32} {b : Nat} (h : am_S0 L (xo xs) 22 b ≠ none) : b < 1 := bnd_beq h
theorem S0b_23 {L : Nat} {xs : Nat → Int32} {b : Nat} (h : am_S0 L (xo xs) 23 b ≠ none) : b < 1 := bnd_beq h
theorem S0b_24 {L : Nat} {xs : Nat → Int32} {b : Nat} (h : am_S0 L (xo xs) 24 b ≠ none) : b < 1 := bnd_beq h
theorem S0b_25 {L : Nat} {xs : Nat → Int32} {b : Nat} (h : am_S0 L (xo xs) 25 b ≠ none) : b < 1 := bnd_beq h
theorem S0b_26 {L : Nat} {xs : Nat → Int32} {b : Nat} (h : am_S0 L (xo xs) 26 b ≠ none) : b < 1 := bnd_beq h
theorem S0b_27 {L : Nat} {xs : Nat → Int32} {b : Nat} (h : am_S0 L (xo xs) 27 b ≠ none) : b < 1 := bnd_beq h
theorem S0b_28 {L : Nat} {xs : Nat → Int32} {b : Nat} (h : am_S0 L (xo xs) 28 b ≠ none) : b < 1 := bnd_beq h
theorem S0b_29 {L : Nat} {xs : Nat → Int32} {b : Nat} (h : am_S0 L (xo xs) 29 b ≠ none) : b < 1 := bnd_beq h
theorem S0b_30 {L : Nat} {xs : Nat → Int32} {b : Nat} (h : am_S0 L (xo xs) 30 b ≠ none) : b < 1 := bnd_beq h
theorem S0b_31 {L : Nat} {xs : Nat → Int32} {b : Nat} (h : am_S0 L (xo xs) 31 b ≠ none) : b < 1 := bnd_beq h
theorem S0b_32 {L : Nat} {xs : Nat → Int32} {b : Nat} (h : am_S0 L (xo xs) 32 b ≠ none) : b < 1 := bnd_beq h
theorem S0b_33 {L : Nat} {xs : Nat → Int32} {b : Nat} (h : am_S0 L (xo xs) 33 b ≠ none) : b < 0 := absurd rfl h
theorem S0b_34 {L : Nat} {xs : Nat → Int32} {b : Nat} (h : am_S0 L (xo xs) 34 b ≠ none) : b < 0 := absurd rfl h
theorem S0b_35 {L : Nat} {xs : Nat → Int32} {b : Nat} (h : am_S0 L (xo xs) 35 b ≠ none) : b < 0 := absurd rfl h
theorem S0b_36 {L : Nat} {xs : Nat → Int32} {b : Nat} (h : am_S0 L (xo xs) 36 b ≠ none) : b < 0 := absurd rfl h
theorem S0b_37 {L : Nat} {xs : Nat → Int32} {b : Nat} (h : am_S0 L (xo xs) 37 b ≠ none) : b < 0 := absurd rfl h
theorem S0b_38 {L : Nat} {xs : Nat → Int32} {b : Nat} (h : am_S0 L (xo xs) 38 b ≠ none) : b < 0 := absurd rfl h
theorem S0b_39 {L : Nat} {xs : Nat → Int32} {b : Nat} (h : am_S0 L (xo xs) 39 b ≠ none) : b < 0 := absurd rfl h
theorem S0b_40 {L : Nat} {xs : Nat → Int32} {b : Nat} (h : am_S0 L (xo xs) 40 b ≠ none) : b < 0 := absurd rfl h
theorem S0b_41 {L : Nat} {xs : Nat → Int32} {b : Nat} (h : am_S0 L (xo xs) 41 b ≠ none) : b < 0 := absurd rfl h
theorem S0b_42 {L : Nat} {xs : Nat → Int32} {b : Nat} (h : am_S0 L (xo xs) 42 b ≠ none) : b < 0 := absurd rfl h
theorem S0b_43 {L : Nat} {xs : Nat → Int32} {b : Nat} (h : am_S0 L (xo xs) 43 b ≠ none) : b < 0 := absurd rfl h
theorem S0b_44 {L : Nat} {xs : Nat → Int32} {b : Nat} (h : am_S0 L (xo xs) 44 b ≠ none) : b < 0 := absurd rfl h
theorem S0b_45 {L : Nat} {xs : Nat → Int32} {b : Nat} (h : am_S0 L (xo xs) 45 b ≠ none) : b < 0 := absurd rfl h
theorem ble_no {a n : Nat} (h : n < a) : Nat.ble a n = false := by
  cases k : Nat.ble a n with
  | false => rfl
  | true => have := Nat.ble_eq.mp k; omega
theorem S0_big {L : Nat} {xs : Nat → Int32} {a b : Nat} (h : 46 ≤ a) : am_S0 L (xo xs) a b = none := by
  unfold am_S0
  rw [ble_no (show 17 < a by omega), ble_no (show 26 < a by omega), ble_no (show 31 < a by omega), ble_no (show 45 < a by omega)]
  show cond (Nat.ble a 46) none none = none
  cases Nat.ble a 46 <;> rfl
theorem S0_lt {L : Nat} {xs : Nat → Int32} {a b : Nat} (ha : a ≠ 0) (h : am_S0 L (xo xs) a b ≠ none) : a < 46 ∧ b < nbA a := by
  have h46 : a < 46 := Classical.byContradiction fun z => h (S0_big (by omega))
  refine ⟨h46, ?_⟩
  by_cases c1 : a = 1
  · subst c1; exact S0b_1 h
  by_cases c2 : a = 2
  · subst c2; exact S0b_2 h
  by_cases c3 : a = 3
  · subst c3; exact S0b_3 h
  by_cases c4 : a = 4
  · subst c4; exact S0b_4 h
  by_cases c5 : a = 5
  · subst c5; exact S0b_5 h
  by_cases c6 : a = 6
  · subst c6; exact S0b_6 h
  by_cases c7 : a = 7
  · subst c7; exact S0b_7 h
  by_cases c8 : a = 8
  · subst c8; exact S0b_8 h
  by_cases c9 : a = 9
  · subst c9; exact S0b_9 h
  by_cases c10 : a = 10
  · subst c10; exact S0b_10 h
  by_cases c11 : a = 11
  · subst c11; exact S0b_11 h
  by_cases c12 : a = 12
  · subst c12; exact S0b_12 h
  by_cases c13 : a = 13
  · subst c13; exact S0b_13 h
  by_cases c14 : a = 14
  · subst c14; exact S0b_14 h
  by_cases c15 : a = 15
  · subst c15; exact S0b_15 h
  by_cases c16 : a = 16
  · subst c16; exact S0b_16 h
  by_cases c17 : a = 17
  · subst c17; exact S0b_17 h
  by_cases c18 : a = 18
  · subst c18; exact S0b_18 h
  by_cases c19 : a = 19
  · subst c19; exact S0b_19 h
  by_cases c20 : a = 20
  · subst c20; exact S0b_20 h
  by_cases c21 : a = 21
  · subst c21; exact S0b_21 h
  by_cases c22 : a = 22
  · subst c22; exact S0b_22 h
  by_cases c23 : a = 23
  · subst c23; exact S0b_23 h
  by_cases c24 : a = 24
  · subst c24; exact S0b_24 h
  by_cases c25 : a = 25
  · subst c25; exact S0b_25 h
  by_cases c26 : a = 26
  · subst c26; exact S0b_26 h
  by_cases c27 : a = 27
  · subst c27; exact S0b_27 h
  by_cases c28 : a = 28
  · subst c28; exact S0b_28 h
  by_cases c29 : a = 29
  · subst c29; exact S0b_29 h
  by_cases c30 : a = 30
  · subst c30; exact S0b_30 h
  by_cases c31 : a = 31
  · subst c31; exact S0b_31 h
  by_cases c32 : a = 32
  · subst c32; exact S0b_32 h
  by_cases c33 : a = 33
  · subst c33; exact S0b_33 h
  by_cases c34 : a = 34
  · subst c34; exact S0b_34 h
  by_cases c35 : a = 35
  · subst c35; exact S0b_35 h
  by_cases c36 : a = 36
  · subst c36; exact S0b_36 h
  by_cases c37 : a = 37
  · subst c37; exact S0b_37 h
  by_cases c38 : a = 38
  · subst c38; exact S0b_38 h
  by_cases c39 : a = 39
  · subst c39; exact S0b_39 h
  by_cases c40 : a = 40
  · subst c40; exact S0b_40 h
  by_cases c41 : a = 41
  · subst c41; exact S0b_41 h
  by_cases c42 : a = 42
  · subst c42; exact S0b_42 h
  by_cases c43 : a = 43
  · subst c43; exact S0b_43 h
  by_cases c44 : a = 44
  · subst c44; exact S0b_44 h
  by_cases c45 : a = 45
  · subst c45; exact S0b_45 h
  omega
theorem ix_fin : ∀ a, a < 46 → ∀ b, b < nbA a → am_ix a b < 136 ∧ am_al (am_ix a b) = (a, b) := by decide +kernel
theorem S0_ix {L : Nat} {xs : Nat → Int32} {a b : Nat} (ha : a ≠ 0) (h : am_S0 L (xo xs) a b ≠ none) : am_ix a b < 136 ∧ am_al (am_ix a b) = (a, b) := ix_fin a (S0_lt ha h).1 b (S0_lt ha h).2
section
variable {L : Nat} {xs : Nat → Int32} {n a b : Nat} {v w : SC}
/-- the shape of the first n cells that are made -/
def cutS (L : Nat) (xs : Nat → Int32) (n : Nat) : Nat → Nat → SC := fun a b => cond (Nat.beq a 0 || Nat.blt (am_ix a b) n) (am_S0 L (xo xs) a b) none
/-- over it: objects under construction -/
def Bs (L : Nat) (xs : Nat → Int32) (o : Nat → Nat → Option SC) (n : Nat) : Nat → Nat → SC := fun a b => match o a b with
  | some v => v
  | none => cutS L xs n a b
def os (o : Nat → Nat → Option SC) (a b : Nat) (v : SC) : Nat → Nat → Option SC := fun a' b' => cond (Nat.beq a' a && Nat.beq b' b) (some v) (o a' b')
theorem os_at (o : Nat → Nat → Option SC) : os o a b v a b = some v := by
  unfold os
  rw [Nat.beq_refl, Nat.beq_refl]
  rfl
theorem os_no {o : Nat → Nat → Option SC} {a' b' : Nat} (h : ¬ (a' = a ∧ b' = b)) : os o a b v a' b' = o a' b' := by
  unfold os
  cases k1 : Nat.beq a' a with
  | false => rfl
  | true =>
    cases k2 : Nat.beq b' b with
    | false => rfl
    | true => exact absurd ⟨Nat.eq_of_beq_eq_true k1, Nat.eq_of_beq_eq_true k2⟩ h
theorem Bs_at {o : Nat → Nat → Option SC} : Bs L xs (os o a b v) n a b = v := by
  unfold Bs
  rw [os_at]
theorem cut_no {m : Nat} (h : a = 0 ∨ (am_ix a b < n ↔ am_ix a b < m)) : cutS L xs n a b = cutS L xs m a b := by
  unfold cutS
  rcases h with h | h
  · subst h; rfl
  · have : Nat.blt (am_ix a b) n = Nat.blt (am_ix a b) m := by
      cases k : Nat.blt (am_ix a b) m with
      | true => exact Nat.blt_eq.mpr (h.mpr (Nat.blt_eq.mp k))
      | false =>
        cases k2 : Nat.blt (am_ix a b) n with
        | false => rfl
        | true =>
          have := Nat.blt_eq.mpr (h.mp (Nat.blt_eq.mp k2))
          rw [k] at this
          cases this
    rw [this]
theorem cut_up {a' b' : Nat} (hal : am_al n = (a, b)) (h : ¬ (a' = a ∧ b' = b)) : cutS L xs n a' b' = cutS L xs (n + 1) a' b' := by
  by_cases z : a' = 0
  · exact cut_no (Or.inl z)
  · by_cases y : am_S0 L (xo xs) a' b' = none
    · unfold cutS
      rw [y]
      cases Nat.beq a' 0 || Nat.blt (am_ix a' b') n <;> cases Nat.beq a' 0 || Nat.blt (am_ix a' b') (n + 1) <;> rfl
    · have k := (S0_ix z y).2
      refine cut_no (Or.inr ⟨fun q => by omega, fun q => ?_⟩)
      have : am_ix a' b' ≠ n := fun e => by
        rw [e, hal] at k
        exact h ⟨(Prod.mk.inj k).1.symm, (Prod.mk.inj k).2.symm⟩
      omega
/-- a cell that is whole at once -/
theorem Bs_new {o : Nat → Nat → Option SC} (hal : am_al n = (a, b)) (ho : o a b = none) (hS : am_S0 L (xo xs) a b = v) : upS (Bs L xs o n) a b v = Bs L xs o (n + 1) := by
  funext a' b'
  show (if a' = a ∧ b' = b then v else Bs L xs o n a' b') = _
  by_cases c : a' = a ∧ b' = b
  · rw [if_pos c, c.1, c.2]
    unfold Bs
    rw [ho]
    show v = cutS L xs (n + 1) a b
    unfold cutS
    have hix : am_ix a b = n := by
      have := am_ix_al n
      rw [hal] at this
      exact this
    rw [hix, show Nat.blt n (n + 1) = true from Nat.blt_eq.mpr (Nat.lt_succ_self n), Bool.or_true]
    exact hS.symm
  · rw [if_neg c]
    unfold Bs
    cases o a' b' with
    | some w => rfl
    | none => exact cut_up hal c
/-- an object whose fields are still to come -/
theorem Bs_obj {o : Nat → Nat → Option SC} (hal : am_al n = (a, b)) : upS (Bs L xs o n) a b v = Bs L xs (os o a b v) (n + 1) := by
  funext a' b'
  show (if a' = a ∧ b' = b then v else Bs L xs o n a' b') = _
  by_cases c : a' = a ∧ b' = b
  · rw [if_pos c, c.1, c.2, Bs_at]
  · rw [if_neg c]
    unfold Bs
    rw [os_no c]
    cases o a' b' with
    | some w => rfl
    | none => exact cut_up hal c
theorem Bs_set {o : Nat → Nat → Option SC} : upS (Bs L xs (os o a b v) n) a b w = Bs L xs (os o a b w) n := by
  funext a' b'
  show (if a' = a ∧ b' = b then w else Bs L xs (os o a b v) n a' b') = _
  by_cases c : a' = a ∧ b' = b
  · rw [if_pos c, c.1, c.2, Bs_at]
  · rw [if_neg c]
    unfold Bs
    rw [os_no c, os_no c]
theorem Bs_done {o : Nat → Nat → Option SC} (ho : o a b = none) (hix : am_ix a b < n) (hS : am_S0 L (xo xs) a b = v) : Bs L xs (os o a b v) n = Bs L xs o n := by
  funext a' b'
  by_cases c : a' = a ∧ b' = b
  · rw [c.1, c.2, Bs_at]
    unfold Bs
    rw [ho]
    show v = cutS L xs n a b
    unfold cutS
    rw [show Nat.blt (am_ix a b) n = true from Nat.blt_eq.mpr hix, Bool.or_true]
    exact hS.symm
  · unfold Bs
    rw [os_no c]
theorem cut_all : cutS L xs 136 = am_S0 L (xo xs) := by
  funext a b
  unfold cutS
  by_cases z : a = 0
  · subst z; rfl
  · by_cases y : am_S0 L (xo xs) a b = none
    · rw [y]
      cases Nat.beq a 0 || Nat.blt (am_ix a b) 136 <;> rfl
    · rw [show Nat.blt (am_ix a b) 136 = true from Nat.blt_eq.mpr (S0_ix z y).1, Bool.or_true]
      rfl
/-- the heap at such a point -/
def CH (L : Nat) (xs : Nat → Int32) (J : (Nat → Nat → Nat → Int64) × (Nat → Nat → Nat → UInt64)) (o : Nat → Nat → Option SC) (n sl : Nat) (V : VV) : AH := (Bs L xs o n, (n, sl), lft V, J)
end
theorem lft_z {V : VV} {a b : Nat} (h : ∀ j, V a b j = 0) : upA (lft V) a b (fun _ => 0) = lft V := by
  funext a' b'
  show (if a' = a ∧ b' = b then (fun _ => (0 : Int32)) else lft V a' b') = _
  by_cases c : a' = a ∧ b' = b
  · rw [if_pos c, c.1, c.2]
    funext j
    unfold lft
    rw [h]
    rfl
  · rw [if_neg c]
theorem upV_same {V : VV} {a b : Nat} {e v : Int} (h : V a b e = v) : upV V a b e v = V := by
  funext a' b' k
  by_cases c : a' = a ∧ b' = b
  · rw [c.1, c.2, upV_at]
    by_cases z : k = e
    · rw [if_pos z, z, h]
    · rw [if_neg z]
  · rw [upV_off2 (by omega)]
theorem lft_s {V : VV} {a b j : Nat} {v : Int} (h : V a b (Int.ofNat j) = v) : upI (lft V) a b j (iI v) = lft V := by
  rw [lft_up, upV_same h]
section
variable {L : Nat} {xs : Nat → Int32} {J : (Nat → Nat → Nat → Int64) × (Nat → Nat → Nat → UInt64)} {o : Nat → Nat → Option SC} {n sl : Nat} {V : VV} {d y pc nx : Nat} {ls : List (Option AV)} {st : List AV}
theorem kc_new {c N a b : Nat} {fs : List AV} (hcd : am_cd y pc = i_new c N fs nx) (hal : am_al n = (a, b)) (hz : ∀ j, V a b j = 0) : RUN d y (pc, ls, st) (CH L xs J o n sl V) = RUN d y (nx, ls, aR a b :: st) (CH L xs J (os o a b (some (Sum.inr (c, fs)))) (n + 1) (sl + N) V) := by
  refine RUN_gi (cs := []) hcd ?_ trivial
  show go nx ls (Sum.inr (Sum.inl (am_al n)) :: st) (upS (Bs L xs o n) (am_al n).1 (am_al n).2 (some (Sum.inr (c, fs))), (n + 1, sl + N), upA (lft V) (am_al n).1 (am_al n).2 (fun _ => 0), J) = _
  rw [hal, Bs_obj hal, lft_z hz]
  rfl
theorem kc_newI {t N a b : Nat} (hcd : am_cd y pc = i_newaI t N nx) (hal : am_al n = (a, b)) (ho : o a b = none) (hS : am_S0 L (xo xs) a b = some (Sum.inl (t, N, fun _ => aN))) (hz : ∀ j, V a b j = 0) : RUN d y (pc, ls, aI (nI N) :: st) (CH L xs J o n sl V) = RUN d y (nx, ls, aR a b :: st) (CH L xs J o (n + 1) (sl + N) V) := by
  refine RUN_gi (cs := [nI N = nI N]) hcd ?_ ⟨rfl, trivial⟩
  show goC (nI N = nI N) nx ls (Sum.inr (Sum.inl (am_al n)) :: st) (upS (Bs L xs o n) (am_al n).1 (am_al n).2 (some (Sum.inl (t, N, fun _ => aN))), (n + 1, sl + N), upA (lft V) (am_al n).1 (am_al n).2 (fun _ => 0), J) = _
  rw [hal, Bs_new hal ho hS, lft_z hz]
  rfl
theorem kc_newA {t N a b : Nat} (hcd : am_cd y pc = i_anewa t N nx) (hal : am_al n = (a, b)) (hz : ∀ j, V a b j = 0) : RUN d y (pc, ls, aI (nI N) :: st) (CH L xs J o n sl V) = RUN d y (nx, ls, aR a b :: st) (CH L xs J (os o a b (some (Sum.inl (t, N, fun _ => aN)))) (n + 1) (sl + N) V) := by
  refine RUN_gi (cs := [nI N = nI N]) hcd ?_ ⟨rfl, trivial⟩
  show goC (nI N = nI N) nx ls (Sum.inr (Sum.inl (am_al n)) :: st) (upS (Bs L xs o n) (am_al n).1 (am_al n).2 (some (Sum.inl (t, N, fun _ => aN))), (n + 1, sl + N), upA (lft V) (am_al n).1 (am_al n).2 (fun _ => 0), J) = _
  rw [hal, Bs_obj hal, lft_z hz]
  rfl
theorem kc_putr {c j a b a' b' : Nat} {fs : List AV} (hcd : am_cd y pc = i_putfr c j nx) : RUN d y (pc, ls, aR a' b' :: aR a b :: st) (CH L xs J (os o a b (some (Sum.inr (c, fs)))) n sl V) = RUN d y (nx, ls, st) (CH L xs J (os o a b (some (Sum.inr (c, fs.set j (aR a' b'))))) n sl V) := by
  refine RUN_gi (cs := []) hcd ?_ trivial
  unfold i_putfr CH
  dsimp only
  rw [show hS (Bs L xs (os o a b (some (Sum.inr (c, fs)))) n, (n, sl), lft V, J) a b = some (Sum.inr (c, fs)) from Bs_at]
  dsimp only
  rw [Nat.beq_refl]
  show go nx ls st (upS (Bs L xs (os o a b (some (Sum.inr (c, fs)))) n) a b (some (Sum.inr (c, fs.set j (aR a' b')))), (n, sl), lft V, J) = _
  rw [Bs_set]
theorem kc_puti {c j a b : Nat} {fs : List AV} {ok : Int32 → Prop} {v : Int} {w : Int32} (hcd : am_cd y pc = i_putfi c j ok nx) (hf : fs.getD j aN = aI w) (hok : ok (iI v)) (hv : V a b (Int.ofNat j) = v) : RUN d y (pc, ls, aI (iI v) :: aR a b :: st) (CH L xs J (os o a b (some (Sum.inr (c, fs)))) n sl V) = RUN d y (nx, ls, st) (CH L xs J (os o a b (some (Sum.inr (c, fs)))) n sl V) := by
  refine RUN_gi (cs := [ok (iI v)]) hcd ?_ ⟨hok, trivial⟩
  unfold i_putfi CH
  dsimp only
  rw [show hS (Bs L xs (os o a b (some (Sum.inr (c, fs)))) n, (n, sl), lft V, J) a b = some (Sum.inr (c, fs)) from Bs_at]
  dsimp only
  rw [Nat.beq_refl, hf]
  show goC (ok (iI v)) nx ls st (Bs L xs (os o a b (some (Sum.inr (c, fs)))) n, (n, sl), upI (lft V) a b j (iI v), J) = _
  rw [lft_s hv]
theorem k_oinit {a b : Nat} {h : AH} (hcd : am_cd y pc = i_oinit nx) (hs : Nat.ble st.length 4 = true) : RUN d y (pc, ls, aR a b :: st) h = RUN d y (nx, ls, st) h := by
  refine RUN_gi (cs := []) hcd ?_ trivial
  show (match Nat.ble st.length 4 with
    | true => go nx ls st h
    | false => stuck) = _
  rw [hs]
theorem RUN_cG {y' : Nat} {ins : Ins} {as : List AV} {fr2 : Fr} {r : Option AV} {h h' : AH} (hcd : am_cd y pc = ins) (e : ins (pc, ls, st) h = ([], Sum.inr (Sum.inl (y', as, fr2)))) (ok : am_aok y' as = true)
    (hr : RUN d y' (am_en y' as) h = some (Sum.inl r, h')) (m1 : hN h ≤ hN h') (m2 : hL h ≤ hL h') : RUN (d + 1) y (pc, ls, st) h = RUN (d + 1) y (fr2.1 + 3, fr2.2.1, r.toList ++ fr2.2.2) h' := by
  subst hcd
  exact RUN_call (fr := (pc, ls, st)) (by show allP (am_cd y pc (pc, ls, st) h).1; rw [e]; trivial) (by show (am_cd y pc (pc, ls, st) h).2 = _; rw [e]) ok hr m1 m2
end
