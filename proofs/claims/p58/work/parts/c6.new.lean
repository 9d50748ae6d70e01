/-! cells that are made later -/
theorem s_318 {d : Nat} {q : QQ} {V : VV} {x1 x2 x3 x4 : Int} (rk : rowok V) (p2 : 0 ≤ x1 ∧ x1 < 32) (p3 : 0 ≤ x2 ∧ x2 < 19) (p4 : 0 ≤ x3 ∧ x3 < 32) (p5 : 0 ≤ x4 ∧ x4 < 19) : RUN (d + 4) 318 (am_en 318 [aR 1 0, aI (iI x1), aI (iI x2), aI (iI x3), aI (iI x4)]) (HM q V) = rI (b2i (clear (V 3 0) x1 x2 x3 x4)) (HM q V) := by
  rw [e_318 rk p2 p3 p4 p5]
  refine cif_eq (fun c => ?_) (fun c => ?_)
  · rw [b2i_iff (clr_dn (by omega))]
  · rw [b2i_iff (clr_up (by omega))]
theorem am_al46 {n : Nat} (h : 136 ≤ n) : am_al n = (46, n) := by
  unfold am_al
  rw [show Nat.ble 136 n = true from Nat.ble_eq.mpr h]
  rfl
theorem am_S0_ext {L : Nat} {xs : XS} {f : Nat → SC} {a b : Nat} (h : a ≠ 46) : am_S0 L (xs.1, f) a b = am_S0 L xs a b := by
  by_cases c : a ≤ 45
  · unfold am_S0
    rw [show Nat.ble a 45 = true from Nat.ble_eq.mpr c]
    rfl
  · have e : Nat.ble a 46 = false := by
      cases k : Nat.ble a 46 with
      | false => rfl
      | true => have := Nat.ble_eq.mp k; omega
    unfold am_S0
    rw [e]
    rfl
/-- one more cell of this shape -/
def newQ (q : QQ) (s : SC) (sl : Nat) : QQ := ((q.1.1, (q.1.2.1, fun x => cond (Nat.beq x q.2.1.1) s (q.1.2.2 x))), (q.2.1.1 + 1, q.2.1.2 + sl), q.2.2)
/-- one cell's shape laid anew -/
def setQ (q : QQ) (b : Nat) (s : SC) : QQ := ((q.1.1, (q.1.2.1, fun x => cond (Nat.beq x b) s (q.1.2.2 x))), q.2.1, q.2.2)
theorem upS_46 {L : Nat} {xs : XS} {n : Nat} {s : SC} : upS (am_S0 L xs) 46 n s = am_S0 L (xs.1, fun x => cond (Nat.beq x n) s (xs.2 x)) := by
  funext a b
  show (if a = 46 ∧ b = n then s else am_S0 L xs a b) = _
  by_cases ha : a = 46
  · subst ha
    show _ = cond (Nat.beq b n) s (xs.2 b)
    by_cases hb : b = n
    · subst hb
      rw [if_pos ⟨rfl, rfl⟩, Nat.beq_refl]
      rfl
    · rw [if_neg (fun z => hb z.2)]
      cases k : Nat.beq b n with
      | true => exact absurd (Nat.eq_of_beq_eq_true k) hb
      | false => rfl
  · rw [if_neg (fun z => ha z.1)]
    exact (am_S0_ext ha).symm
theorem lft_setA {V : VV} {b : Nat} {f : Int → Int} {g : Nat → Int32} (h : ∀ j : Nat, g j = iI (f (Int.ofNat j))) : upA (lft V) 46 b g = lft (setA V 46 b f) := by
  funext a' b' j
  show (if a' = 46 ∧ b' = b then g else lft V a' b') j = iI (cond (Nat.beq a' 46 && Nat.beq b' b) (f (Int.ofNat j)) (V a' b' (Int.ofNat j)))
  by_cases c : a' = 46 ∧ b' = b
  · rw [if_pos c, c.1, c.2, Nat.beq_refl b, h]
    rfl
  · rw [if_neg c]
    have e : (Nat.beq a' 46 && Nat.beq b' b) = false := by
      cases k1 : Nat.beq a' 46 with
      | false => rfl
      | true =>
        cases k2 : Nat.beq b' b with
        | false => rfl
        | true => exact absurd ⟨Nat.eq_of_beq_eq_true k1, Nat.eq_of_beq_eq_true k2⟩ c
    rw [e]
    rfl
section
variable {d y pc nx : Nat} {ls : List (Option AV)} {st : List AV} {q : QQ} {V : VV}
theorem k_newI46 {t N : Nat} (hcd : am_cd y pc = i_newaI t N nx) (hn : 136 ≤ q.2.1.1) : RUN d y (pc, ls, aI (nI N) :: st) (HM q V) = RUN d y (nx, ls, aR 46 q.2.1.1 :: st) (HM (newQ q (some (Sum.inl (t, N, fun _ => aN))) N) (setA V 46 q.2.1.1 (fun _ => 0))) := by
  refine RUN_gi (cs := [nI N = nI N]) hcd ?_ ⟨rfl, trivial⟩
  show goC (nI N = nI N) nx ls (Sum.inr (Sum.inl (am_al q.2.1.1)) :: st) (upS (am_S0 q.1.1 q.1.2) (am_al q.2.1.1).1 (am_al q.2.1.1).2 (some (Sum.inl (t, N, fun _ => aN))), (q.2.1.1 + 1, q.2.1.2 + N), upA (lft V) (am_al q.2.1.1).1 (am_al q.2.1.1).2 (fun _ => 0), q.2.2) = _
  rw [am_al46 hn]
  dsimp only
  rw [upS_46, lft_setA (g := fun _ => (0 : Int32)) (f := fun _ => 0) (fun _ => rfl)]
  rfl
end
theorem newQ_at {q : QQ} {s : SC} {sl : Nat} : (newQ q s sl).1.2.2 q.2.1.1 = s := by
  show cond (Nat.beq q.2.1.1 q.2.1.1) s _ = s
  rw [Nat.beq_refl]
  rfl
theorem newQ_adv {q : QQ} {s : SC} {sl : Nat} : adv 1 sl q.2.1.1 q (newQ q s sl) := by
  refine ⟨⟨rfl, rfl, fun x hx => ?_⟩, rfl, ⟨Nat.le_add_right _ _, Nat.le_refl _⟩, Nat.le_add_right _ _, Nat.le_refl _⟩
  show cond (Nat.beq x q.2.1.1) s (q.1.2.2 x) = q.1.2.2 x
  cases k : Nat.beq x q.2.1.1 with
  | true => have := Nat.eq_of_beq_eq_true k; omega
  | false => rfl
theorem set46_off {V : VV} {b : Nat} {f : Int → Int} {a' b' : Nat} (h : a' ≠ 46 ∨ b' ≠ b) : setA V 46 b f a' b' = V a' b' := by
  show (fun j => cond (Nat.beq a' 46 && Nat.beq b' b) (f j) (V a' b' j)) = V a' b'
  have e : (Nat.beq a' 46 && Nat.beq b' b) = false := by
    cases k1 : Nat.beq a' 46 with
    | false => rfl
    | true =>
      cases k2 : Nat.beq b' b with
      | false => rfl
      | true =>
        have := Nat.eq_of_beq_eq_true k1
        have := Nat.eq_of_beq_eq_true k2
        omega
  rw [e]
  rfl
theorem set46_at {V : VV} {b : Nat} {f : Int → Int} : setA V 46 b f 46 b = f := by
  show (fun j => cond (Nat.beq 46 46 && Nat.beq b b) (f j) (V 46 b j)) = f
  rw [Nat.beq_refl, Nat.beq_refl]
  rfl
theorem kp_46 {n0 b : Nat} {V : VV} {f : Int → Int} (h : LW V) (hb : n0 ≤ b) : kp n0 V (setA V 46 b f) := by
  refine ⟨fun a h1 h2 => funext fun b' => set46_off (by omega), funext fun b' => set46_off (by omega), fun x hx => set46_off (by omega), ?_, ?_, ?_⟩
  · exact h.2.2.2.2.1
  · exact h.2.2.2.2.2.1
  · exact h.2.2.2.2.2.2
