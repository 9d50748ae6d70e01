/-! whole numbers for Int32; the heap behind the constructors -/
def iI (z : Int) : Int32 := Int32.ofInt z
abbrev R32 (z : Int) : Prop := -2147483648 ≤ z ∧ z < 2147483648
theorem iI_add (a b : Int) : iI a + iI b = iI (a + b) := (Int32.ofInt_add a b).symm
theorem iI_mul (a b : Int) : iI a * iI b = iI (a * b) := (Int32.ofInt_mul a b).symm
theorem iI_sub (a b : Int) : iI a - iI b = iI (a - b) := (Int32.ofInt_sub a b).symm
theorem iI_neg (a : Int) : -iI a = iI (-a) := (Int32.ofInt_neg a).symm
theorem iI_to {z : Int} (h : R32 z) : (iI z).toInt = z := by
  have e : z.bmod (2 ^ 32) = z := Int.bmod_eq_of_le (by omega) (by omega)
  unfold iI
  rw [Int32.toInt_ofInt]
  exact e
theorem iI_of (x : Int32) : iI x.toInt = x := Int32.ofInt_toInt x
theorem iI_lt {a b : Int} (ha : R32 a) (hb : R32 b) : iI a < iI b ↔ a < b := by rw [Int32.lt_iff_toInt_lt, iI_to ha, iI_to hb]
theorem iI_le {a b : Int} (ha : R32 a) (hb : R32 b) : iI a ≤ iI b ↔ a ≤ b := by rw [Int32.le_iff_toInt_le, iI_to ha, iI_to hb]
theorem iI_eq {a b : Int} (ha : R32 a) (hb : R32 b) : iI a = iI b ↔ a = b := by rw [← Int32.toInt_inj, iI_to ha, iI_to hb]
theorem iI_ne {a b : Int} (ha : R32 a) (hb : R32 b) : iI a ≠ iI b ↔ ¬ a = b := not_congr (iI_eq ha hb)
theorem R32_0 : R32 0 := ⟨by decide, by decide⟩
theorem iI_lt0 {a : Int} (ha : R32 a) : iI a < 0 ↔ a < 0 := iI_lt ha R32_0
theorem iI_le0 {a : Int} (ha : R32 a) : iI a ≤ 0 ↔ a ≤ 0 := iI_le ha R32_0
theorem iI_0lt {a : Int} (ha : R32 a) : 0 < iI a ↔ 0 < a := iI_lt R32_0 ha
theorem iI_0le {a : Int} (ha : R32 a) : 0 ≤ iI a ↔ 0 ≤ a := iI_le R32_0 ha
theorem iI_eq0 {a : Int} (ha : R32 a) : iI a = 0 ↔ a = 0 := iI_eq ha R32_0
theorem iI_ne0 {a : Int} (ha : R32 a) : iI a ≠ 0 ↔ ¬ a = 0 := iI_ne ha R32_0
theorem iI_nat {z : Int} (h : R32 z) : (iI z).toNatClampNeg = z.toNat := by
  show (iI z).toInt.toNat = z.toNat
  rw [iI_to h]
theorem iI_in {e : Int} {n : Nat} (he : 0 ≤ e ∧ e < (n : Int)) (hn : n < 2147483648) : vp_in (iI e) n := by
  refine vp_in_iff.mpr ?_
  rw [iI_to (by omega)]
  exact he
theorem iI_ofNat (n : Nat) : iI (n : Int) = nI n := Int32.ofInt_eq_ofNat
theorem iI_char {z : Int} (h : 0 ≤ z ∧ z < 65536) : narrow .char (.int (iI z)) = .int (iI z) := by
  obtain ⟨n, rfl⟩ : ∃ n : Nat, z = n := ⟨z.toNat, by omega⟩
  rw [iI_ofNat]
  show Value.int ((nI n).toUInt32.toUInt16.toUInt32.toInt32) = _
  congr 1
  apply Int32.toBitVec_inj.1
  apply BitVec.eq_of_toNat_eq
  have e1 : (nI n).toBitVec.toNat = n := by
    show (BitVec.ofNat 32 n).toNat = n
    rw [BitVec.toNat_ofNat, Nat.mod_eq_of_lt (by omega)]
  have e2 : ((nI n).toUInt32.toUInt16.toUInt32).toNat = n := by
    rw [UInt16.toNat_toUInt32, UInt32.toNat_toUInt16]
    show (nI n).toBitVec.toNat % 2 ^ 16 = n
    rw [e1, Nat.mod_eq_of_lt (by omega)]
  rw [e1]
  exact e2
theorem iI_bool {z : Int} (h : z = 0 ∨ z = 1) : am_okZ (iI z) := by
  rcases h with rfl | rfl
  · exact Or.inl rfl
  · exact Or.inr rfl
theorem iI_div {a b : Int} (ha : 0 ≤ a ∧ a < 2147483648) (hb : 0 < b ∧ b < 2147483648) : iI a / iI b = iI (a / b) := by
  have h1 : 0 ≤ a / b := Int.ediv_nonneg ha.1 (by omega)
  have h2 : a / b ≤ a := Int.ediv_le_self b ha.1
  rw [← Int32.toInt_inj, Int32.toInt_div, iI_to (by omega), iI_to (by omega), iI_to (by omega), Int.tdiv_eq_ediv_of_nonneg ha.1, Int.bmod_eq_of_le (by omega) (by omega)]
theorem iI_rem {a b : Int} (ha : 0 ≤ a ∧ a < 2147483648) (hb : 0 < b ∧ b < 2147483648) : iI a - iI a / iI b * iI b = iI (a % b) := by
  rw [iI_div ha hb, iI_mul, iI_sub]
  congr 1
  have := Int.emod_add_mul_ediv a b
  have e : a / b * b = b * (a / b) := Int.mul_comm _ _
  omega
theorem iI_i2c (x : Int) : ((iI x).toUInt32 % 65536).toInt32 = iI (x % 65536) := by
  apply Int32.toBitVec_inj.1
  apply BitVec.eq_of_toNat_eq
  show ((iI x).toUInt32 % 65536).toNat = (BitVec.ofInt 32 (x % 65536)).toNat
  rw [UInt32.toNat_mod, BitVec.toNat_ofInt]
  show (BitVec.ofInt 32 x).toNat % 65536 = _
  rw [BitVec.toNat_ofInt]
  omega
theorem iI_min {a b : Int} (ha : R32 a) (hb : R32 b) : (if iI b < iI a then iI b else iI a) = iI (min a b) := by
  by_cases h : b < a
  · rw [if_pos ((iI_lt hb ha).mpr h), Int.min_eq_right (by omega)]
  · rw [if_neg (fun q => h ((iI_lt hb ha).mp q)), Int.min_eq_left (by omega)]
theorem iI_max {a b : Int} (ha : R32 a) (hb : R32 b) : (if iI a < iI b then iI b else iI a) = iI (max a b) := by
  by_cases h : a < b
  · rw [if_pos ((iI_lt ha hb).mpr h), Int.max_eq_right (by omega)]
  · rw [if_neg (fun q => h ((iI_lt ha hb).mp q)), Int.max_eq_left (by omega)]
theorem iI_abs {a : Int} (ha : R32 a) : (if 0 ≤ iI a then iI a else 0 - iI a) = iI (max a (-a)) := by
  by_cases h : 0 ≤ a
  · rw [if_pos ((iI_0le ha).mpr h), Int.max_eq_left (by omega)]
  · rw [if_neg (fun q => h ((iI_0le ha).mp q)), Int.max_eq_right (by omega)]
    show iI 0 - iI a = _
    rw [iI_sub]
    congr 1
    omega
def bAnd (a b : Int) : Int := (iI a &&& iI b).toInt
def bOr (a b : Int) : Int := (iI a ||| iI b).toInt
def bXor (a b : Int) : Int := (iI a ^^^ iI b).toInt
def bShl (a b : Int) : Int := (iI a <<< (iI b &&& 31)).toInt
def bShr (a b : Int) : Int := (iI a >>> (iI b &&& 31)).toInt
def bUsr (a b : Int) : Int := (((iI a).toUInt32 >>> ((iI b).toUInt32 &&& Int32.toUInt32 31)).toInt32).toInt
abbrev VV : Type := Nat → Nat → Int → Int
def lft (V : VV) : Nat → Nat → Nat → Int32 := fun a b j => iI (V a b (Int.ofNat j))
def upV (V : VV) (a b : Nat) (e v : Int) : VV := fun a' b' j => cond (Nat.beq a' a && Nat.beq b' b) (if j = e then v else V a' b' j) (V a' b' j)
/-- a whole row written anew -/
def setA (V : VV) (a b : Nat) (f : Int → Int) : VV := fun a' b' j => cond (Nat.beq a' a && Nat.beq b' b) (f j) (V a' b' j)
theorem lft_up (V : VV) (a b j : Nat) (v : Int) : upI (lft V) a b j (iI v) = lft (upV V a b (Int.ofNat j) v) := by
  funext a' b' j'
  unfold upI lft upV
  cases ha : Nat.beq a' a with
  | false =>
    rw [if_neg (fun q => by rw [q.1, Nat.beq_refl] at ha; cases ha)]
    rfl
  | true =>
    cases hb : Nat.beq b' b with
    | false =>
      rw [if_neg (fun q => by rw [q.2.1, Nat.beq_refl] at hb; cases hb)]
      rfl
    | true =>
      have e1 := Nat.eq_of_beq_eq_true ha
      have e2 := Nat.eq_of_beq_eq_true hb
      subst e1 e2
      by_cases hj : j' = j
      · subst hj
        rw [if_pos ⟨rfl, rfl, rfl⟩]
        show iI v = iI (if Int.ofNat j' = Int.ofNat j' then v else _)
        rw [if_pos rfl]
      · rw [if_neg (fun q => hj q.2.2)]
        show _ = iI (if Int.ofNat j' = Int.ofNat j then v else _)
        rw [if_neg (fun q => hj (Int.ofNat.inj q))]
theorem lft_upE (V : VV) (a b : Nat) {e : Int} (he : 0 ≤ e) (v : Int) : upI (lft V) a b e.toNat (iI v) = lft (upV V a b e v) := by
  have h := lft_up V a b e.toNat v
  rw [show Int.ofNat e.toNat = e from Int.toNat_of_nonneg he] at h
  exact h
/-- the script, and what the cells that are made later are -/
abbrev XS : Type := (Nat → Int32) × (Nat → SC)
def am_S0 (L : Nat) (xs : XS) (a b : Nat) : SC := cond (Nat.ble a 17) (cond (Nat.ble a 8) (cond (Nat.ble a 4) (cond (Nat.ble a 2) (cond (Nat.ble a 1) (cond (Nat.ble a 0) (am_PS L xs.1 b) (cond (Nat.beq b 0) (some (Sum.inr (0, [aR 2 0, aR 2 1, aR 2 2, aR 11 0, aR 13 0, aR 15 0, aR 22 0, aR 24 0, aR 27 0, aR 31 0, aI 0, aI 0, aI 0, aI 0, aI 0]))) none)) (cond (Nat.blt b 11) (some (Sum.inr (1, [aR 3 b, aR 4 b, aR 5 b, aR 6 b, aR 7 b, aR 8 b, aR 9 b, aR 10 b, aI 0, aI 0]))) none)) (cond (Nat.ble a 3) (cond (Nat.blt b 11) (some (Sum.inl (0, 32, fun _ => aN))) none) (cond (Nat.blt b 11) (some (Sum.inl (0, 8, fun _ => aN))) none))) (cond (Nat.ble a 6) (cond (Nat.ble a 5) (cond (Nat.blt b 11) (some (Sum.inl (0, 8, fun _ => aN))) none) (cond (Nat.blt b 11) (some (Sum.inl (0, 8, fun _ => aN))) none)) (cond (Nat.ble a 7) (cond (Nat.blt b 11) (some (Sum.inl (0, 8, fun _ => aN))) none) (cond (Nat.blt b 11) (some (Sum.inl (0, 8, fun _ => aN))) none)))) (cond (Nat.ble a 13) (cond (Nat.ble a 11) (cond (Nat.ble a 10) (cond (Nat.ble a 9) (cond (Nat.blt b 11) (some (Sum.inl (0, 64, fun _ => aN))) none) (cond (Nat.blt b 11) (some (Sum.inl (0, 16, fun _ => aN))) none)) (cond (Nat.beq b 0) (some (Sum.inr (2, [aR 12 0, aI 0, aI 0]))) none)) (cond (Nat.ble a 12) (cond (Nat.beq b 0) (some (Sum.inl (4, 8, fun j => if j < 8 then aR 2 (3 + j) else aN))) none) (cond (Nat.beq b 0) (some (Sum.inr (3, [aR 2 0, aR 14 0]))) none))) (cond (Nat.ble a 15) (cond (Nat.ble a 14) (cond (Nat.beq b 0) (some (Sum.inl (0, 8, fun _ => aN))) none) (cond (Nat.beq b 0) (some (Sum.inr (4, [aR 2 0, aR 13 0, aR 16 0, aR 18 0, aR 20 0, aR 21 0, aI 0, aI 0]))) none)) (cond (Nat.ble a 16) (cond (Nat.beq b 0) (some (Sum.inl (5, 8, fun j => aR 17 j))) none) (cond (Nat.blt b 8) (some (Sum.inl (0, 8, fun _ => aN))) none))))) (cond (Nat.ble a 26) (cond (Nat.ble a 22) (cond (Nat.ble a 20) (cond (Nat.ble a 19) (cond (Nat.ble a 18) (cond (Nat.beq b 0) (some (Sum.inl (5, 8, fun j => aR 19 j))) none) (cond (Nat.blt b 8) (some (Sum.inl (0, 8, fun _ => aN))) none)) (cond (Nat.beq b 0) (some (Sum.inl (0, 8, fun _ => aN))) none)) (cond (Nat.ble a 21) (cond (Nat.beq b 0) (some (Sum.inl (0, 8, fun _ => aN))) none) (cond (Nat.beq b 0) (some (Sum.inr (5, [aR 23 0]))) none))) (cond (Nat.ble a 24) (cond (Nat.ble a 23) (cond (Nat.beq b 0) (some (Sum.inl (0, 16, fun _ => aN))) none) (cond (Nat.beq b 0) (some (Sum.inr (6, [aR 2 0, aR 25 0, aR 26 0, aI 0, aI 0, aI 0, aI 0]))) none)) (cond (Nat.ble a 25) (cond (Nat.beq b 0) (some (Sum.inl (0, 16, fun _ => aN))) none) (cond (Nat.beq b 0) (some (Sum.inl (0, 16, fun _ => aN))) none)))) (cond (Nat.ble a 31) (cond (Nat.ble a 29) (cond (Nat.ble a 28) (cond (Nat.ble a 27) (cond (Nat.beq b 0) (some (Sum.inr (7, [aR 28 0, aR 29 0, aR 30 0, aI 0, aI 0, aI 0, aI 0]))) none) (cond (Nat.beq b 0) (some (Sum.inl (1, 60, fun _ => aN))) none)) (cond (Nat.beq b 0) (some (Sum.inl (6, 10, fun _ => aN))) none)) (cond (Nat.ble a 30) (cond (Nat.beq b 0) (some (Sum.inl (0, 30, fun _ => aN))) none) (cond (Nat.beq b 0) (some (Sum.inr (8, [aR 32 0, aI 0]))) none))) (cond (Nat.ble a 45) (cond (Nat.ble a 32) (cond (Nat.beq b 0) (some (Sum.inl (1, 32, fun _ => aN))) none) (none)) (cond (Nat.ble a 46) (xs.2 b) (none)))))
theorem am_S0_2 {L : Nat} {xs : XS} {r : Nat} (h : r < 11) : am_S0 L xs 2 r = some (Sum.inr (1, [aR 3 r, aR 4 r, aR 5 r, aR 6 r, aR 7 r, aR 8 r, aR 9 r, aR 10 r, aI 0, aI 0])) := by
  show cond (Nat.blt r 11) _ none = _
  rw [show Nat.blt r 11 = true from Nat.blt_eq.mpr h]
  rfl
theorem am_S0_r {L : Nat} {xs : XS} {r q n : Nat} (h : r < 11) (hq : (q, n) ∈ [(3, 32), (4, 8), (5, 8), (6, 8), (7, 8), (8, 8), (9, 64), (10, 16)]) : am_S0 L xs q r = some (Sum.inl (0, n, fun _ => aN)) := by
  have e : Nat.blt r 11 = true := Nat.blt_eq.mpr h
  simp only [List.mem_cons, Prod.mk.injEq, List.not_mem_nil, or_false] at hq
  rcases hq with ⟨rfl, rfl⟩ | ⟨rfl, rfl⟩ | ⟨rfl, rfl⟩ | ⟨rfl, rfl⟩ | ⟨rfl, rfl⟩ | ⟨rfl, rfl⟩ | ⟨rfl, rfl⟩ | ⟨rfl, rfl⟩ <;>
    (show cond (Nat.blt r 11) _ none = _; rw [e]; rfl)
theorem am_S0_17 {L : Nat} {xs : XS} {e : Int} (h : 0 ≤ e ∧ e < 8) : am_S0 L xs 17 e.toNat = some (Sum.inl (0, 8, fun _ => aN)) := by
  show cond (Nat.blt e.toNat 8) _ none = _
  rw [show Nat.blt e.toNat 8 = true from Nat.blt_eq.mpr (by omega)]
  rfl
theorem am_S0_19 {L : Nat} {xs : XS} {e : Int} (h : 0 ≤ e ∧ e < 8) : am_S0 L xs 19 e.toNat = some (Sum.inl (0, 8, fun _ => aN)) := by
  show cond (Nat.blt e.toNat 8) _ none = _
  rw [show Nat.blt e.toNat 8 = true from Nat.blt_eq.mpr (by omega)]
  rfl
abbrev QQ : Type := (Nat × XS) × (Nat × Nat) × (Nat → Nat → Nat → Int64) × (Nat → Nat → Nat → UInt64)
def HM (q : QQ) (V : VV) : AH := (am_S0 q.1.1 q.1.2, q.2.1, lft V, q.2.2)
/-- a throw makes one object of six fields -/
def thr (q : QQ) : QQ := (q.1, (q.2.1.1 + 1, q.2.1.2 + 6), q.2.2)
abbrev rI (x : Int) (h : AH) : Option (Out × AH) := some (Sum.inl (some (aI (iI x))), h)
abbrev rV (h : AH) : Option (Out × AH) := some (Sum.inl none, h)
abbrev rX (j : Nat) (h : AH) : Option (Out × AH) := some (Sum.inr j, h)
abbrev sI (x : Int) : Option AV := some (aI (iI x))
abbrev sR (a b : Nat) : Option AV := some (aR a b)
theorem RUN_gi {d y pc : Nat} {ls : List (Option AV)} {st : List AV} {h h' : AH} {ins : Ins} {cs : List Prop} {fr' : Fr} (hcd : am_cd y pc = ins) (e : ins (pc, ls, st) h = (cs, Sum.inl (fr', h'))) (c : allP cs) : RUN d y (pc, ls, st) h = RUN d y fr' h' := by
  subst hcd
  exact RUN_go (by show allP (am_cd y pc (pc, ls, st) h).1; rw [e]; exact c) (by show (am_cd y pc (pc, ls, st) h).2 = _; rw [e])
theorem RUN_ei {d y pc : Nat} {ls : List (Option AV)} {st : List AV} {h : AH} {ins : Ins} {cs : List Prop} {q : Out × AH} (hcd : am_cd y pc = ins) (e : ins (pc, ls, st) h = (cs, Sum.inr (Sum.inr (Sum.inl q)))) (c : allP cs) : RUN d y (pc, ls, st) h = some q := by
  subst hcd
  exact RUN_end (by show allP (am_cd y pc (pc, ls, st) h).1; rw [e]; exact c) (by show (am_cd y pc (pc, ls, st) h).2 = _; rw [e])
section
variable {d y pc nx : Nat} {ls : List (Option AV)} {st : List AV} {h : AH} {q : QQ} {V : VV}
theorem k_push {v : AV} (hcd : am_cd y pc = i_push v nx) : RUN d y (pc, ls, st) h = RUN d y (nx, ls, v :: st) h := RUN_gi hcd rfl trivial
theorem k_pushi {v : Int32} (n : Int) (hcd : am_cd y pc = i_push (aI v) nx) (hv : v = iI n) : RUN d y (pc, ls, st) h = RUN d y (nx, ls, aI (iI n) :: st) h := by
  subst hv
  exact RUN_gi hcd rfl trivial
theorem k_iload {i : Nat} {x : Int32} (hcd : am_cd y pc = i_iload i nx) (hl : ls[i]? = some (some (aI x))) : RUN d y (pc, ls, st) h = RUN d y (nx, ls, aI x :: st) h := by
  refine RUN_gi hcd (cs := []) ?_ trivial
  show (match ls[i]? with | some (some (Sum.inl x)) => go nx ls (aI x :: st) h | _ => stuck) = _
  rw [hl]
theorem k_aload {i a b : Nat} (hcd : am_cd y pc = i_aload i nx) (hl : ls[i]? = some (some (aR a b))) : RUN d y (pc, ls, st) h = RUN d y (nx, ls, aR a b :: st) h := by
  refine RUN_gi hcd (cs := []) ?_ trivial
  show (match ls[i]? with | some (some (Sum.inr (Sum.inl q))) => go nx ls (Sum.inr (Sum.inl q) :: st) h | some (some v) => goC (am_rf v = true) nx ls (v :: st) h | _ => stuck) = _
  rw [hl]
theorem k_store {i : Nat} {x : Int32} (hcd : am_cd y pc = i_store i nx) : RUN d y (pc, ls, aI x :: st) h = RUN d y (nx, ls.set i (some (aI x)), st) h := RUN_gi hcd rfl trivial
theorem k_astore {i a b : Nat} (hcd : am_cd y pc = i_astore i nx) : RUN d y (pc, ls, aR a b :: st) h = RUN d y (nx, ls.set i (some (aR a b)), st) h := RUN_gi hcd rfl trivial
theorem k_iinc {i : Nat} {n : Int32} {x : Int} (m : Int) (hcd : am_cd y pc = i_iinc i n nx) (hl : ls[i]? = some (some (aI (iI x)))) (hn : n = iI m) : RUN d y (pc, ls, st) h = RUN d y (nx, ls.set i (some (aI (iI (x + m)))), st) h := by
  subst hn
  refine RUN_gi hcd (cs := []) ?_ trivial
  show (match ls[i]? with | some (some (Sum.inl x)) => go nx (ls.set i (some (aI (x + iI m)))) st h | _ => stuck) = _
  rw [hl]
  dsimp only
  rw [iI_add]
theorem k_bin {f : Int32 → Int32 → Int32} {a b c : Int} (hcd : am_cd y pc = i_bin f nx) (hf : f (iI a) (iI b) = iI c) : RUN d y (pc, ls, aI (iI b) :: aI (iI a) :: st) h = RUN d y (nx, ls, aI (iI c) :: st) h := by
  rw [← hf]
  exact RUN_gi hcd rfl trivial
theorem k_div {f : Int32 → Int32 → Int32} {a b c : Int} (hcd : am_cd y pc = i_div f nx) (hf : f (iI a) (iI b) = iI c) (hb : 0 < b ∧ b < 2147483648) : RUN d y (pc, ls, aI (iI b) :: aI (iI a) :: st) h = RUN d y (nx, ls, aI (iI c) :: st) h := by
  rw [← hf]
  refine RUN_gi hcd rfl ⟨fun e => ?_, trivial⟩
  have := (iI_eq0 (by omega)).mp e
  omega
theorem k_un {f : Int32 → Int32} {a c : Int} (hcd : am_cd y pc = i_un f nx) (hf : f (iI a) = iI c) : RUN d y (pc, ls, aI (iI a) :: st) h = RUN d y (nx, ls, aI (iI c) :: st) h := by
  rw [← hf]
  exact RUN_gi hcd rfl trivial
theorem k_m2 {f : Int32 → Int32 → Int32} {a b c : Int} (hcd : am_cd y pc = i_m2 f nx) (hs : Nat.ble st.length 4 = true) (hf : f (iI a) (iI b) = iI c) : RUN d y (pc, ls, aI (iI b) :: aI (iI a) :: st) h = RUN d y (nx, ls, aI (iI c) :: st) h := by
  rw [← hf]
  refine RUN_gi hcd (cs := []) ?_ trivial
  show (match Nat.ble st.length 4 with | true => go nx ls (aI (f (iI a) (iI b)) :: st) h | false => stuck) = _
  rw [hs]
theorem k_m1 {f : Int32 → Int32} {a c : Int} (hcd : am_cd y pc = i_m1 f nx) (hs : Nat.ble st.length 4 = true) (hf : f (iI a) = iI c) : RUN d y (pc, ls, aI (iI a) :: st) h = RUN d y (nx, ls, aI (iI c) :: st) h := by
  rw [← hf]
  refine RUN_gi hcd (cs := []) ?_ trivial
  show (match Nat.ble st.length 4 with | true => go nx ls (aI (f (iI a)) :: st) h | false => stuck) = _
  rw [hs]
theorem k_goto (hcd : am_cd y pc = i_goto nx) : RUN d y (pc, ls, st) h = RUN d y (nx, ls, st) h := RUN_gi hcd rfl trivial
theorem k_dup {x : Int32} (hcd : am_cd y pc = i_dup nx) : RUN d y (pc, ls, aI x :: st) h = RUN d y (nx, ls, aI x :: aI x :: st) h := RUN_gi hcd rfl trivial
theorem k_dupR {a b : Nat} (hcd : am_cd y pc = i_dup nx) : RUN d y (pc, ls, aR a b :: st) h = RUN d y (nx, ls, aR a b :: aR a b :: st) h := RUN_gi hcd rfl trivial
theorem k_dup_x1 {x : Int32} {a b : Nat} (hcd : am_cd y pc = i_dup_x1 nx) : RUN d y (pc, ls, aI x :: aR a b :: st) h = RUN d y (nx, ls, aI x :: aR a b :: aI x :: st) h := RUN_gi hcd rfl trivial
theorem k_dup2 {x : Int32} {a b : Nat} (hcd : am_cd y pc = i_dup2 nx) : RUN d y (pc, ls, aI x :: aR a b :: st) h = RUN d y (nx, ls, aI x :: aR a b :: aI x :: aR a b :: st) h := RUN_gi hcd rfl trivial
theorem k_pop {x : Int32} (hcd : am_cd y pc = i_pop nx) : RUN d y (pc, ls, aI x :: st) h = RUN d y (nx, ls, st) h := RUN_gi hcd rfl trivial
theorem k_icmp {tgt : Nat} {c : Int32 → Int32 → Prop} {dc : ∀ a b, Decidable (c a b)} {a b : Int} (P : Prop) [Decidable P] (hcd : am_cd y pc = i_icmp c dc tgt nx) (hP : c (iI a) (iI b) ↔ P) : RUN d y (pc, ls, aI (iI b) :: aI (iI a) :: st) h = if P then RUN d y (tgt, ls, st) h else RUN d y (nx, ls, st) h := by
  rw [RUN_gi (fr' := (@ite _ (c (iI a) (iI b)) (dc (iI a) (iI b)) tgt nx, ls, st)) (h' := h) (cs := []) hcd rfl trivial]
  by_cases hp : P
  · rw [if_pos hp, if_pos (hP.mpr hp)]
  · rw [if_neg hp, if_neg (fun z => hp (hP.mp z))]
theorem k_icmpN {tgt : Nat} {c : Int32 → Int32 → Prop} {dc : ∀ a b, Decidable (c a b)} {a b : Int} (P : Prop) [Decidable P] (hcd : am_cd y pc = i_icmp c dc tgt nx) (hP : c (iI a) (iI b) ↔ ¬ P) : RUN d y (pc, ls, aI (iI b) :: aI (iI a) :: st) h = if P then RUN d y (nx, ls, st) h else RUN d y (tgt, ls, st) h := by
  rw [RUN_gi (fr' := (@ite _ (c (iI a) (iI b)) (dc (iI a) (iI b)) tgt nx, ls, st)) (h' := h) (cs := []) hcd rfl trivial]
  by_cases hp : P
  · rw [if_pos hp, if_neg (fun z => hP.mp z hp)]
  · rw [if_neg hp, if_pos (hP.mpr hp)]
theorem k_if {tgt : Nat} {c : Int32 → Prop} {dc : ∀ a, Decidable (c a)} {a : Int} (P : Prop) [Decidable P] (hcd : am_cd y pc = i_if c dc tgt nx) (hP : c (iI a) ↔ P) : RUN d y (pc, ls, aI (iI a) :: st) h = if P then RUN d y (tgt, ls, st) h else RUN d y (nx, ls, st) h := by
  rw [RUN_gi (fr' := (@ite _ (c (iI a)) (dc (iI a)) tgt nx, ls, st)) (h' := h) (cs := []) hcd rfl trivial]
  by_cases hp : P
  · rw [if_pos hp, if_pos (hP.mpr hp)]
  · rw [if_neg hp, if_neg (fun z => hp (hP.mp z))]
theorem k_ifN {tgt : Nat} {c : Int32 → Prop} {dc : ∀ a, Decidable (c a)} {a : Int} (P : Prop) [Decidable P] (hcd : am_cd y pc = i_if c dc tgt nx) (hP : c (iI a) ↔ ¬ P) : RUN d y (pc, ls, aI (iI a) :: st) h = if P then RUN d y (nx, ls, st) h else RUN d y (tgt, ls, st) h := by
  rw [RUN_gi (fr' := (@ite _ (c (iI a)) (dc (iI a)) tgt nx, ls, st)) (h' := h) (cs := []) hcd rfl trivial]
  by_cases hp : P
  · rw [if_pos hp, if_neg (fun z => hP.mp z hp)]
  · rw [if_neg hp, if_pos (hP.mpr hp)]
theorem k_ifs {α : Type} {P : Prop} [Decidable P] {a b a' b' : α} (h1 : P → a = a') (h2 : ¬ P → b = b') : (if P then a else b) = (if P then a' else b') := by
  by_cases hp : P
  · rw [if_pos hp, if_pos hp, h1 hp]
  · rw [if_neg hp, if_neg hp, h2 hp]
theorem k_getfi {c j a b : Nat} {fs : List AV} (e : Int) (he : Int.ofNat j = e) (hcd : am_cd y pc = i_getf c j nx) (hS : am_S0 q.1.1 q.1.2 a b = some (Sum.inr (c, fs))) (hf : fs.getD j aN = aI 0) : RUN d y (pc, ls, aR a b :: st) (HM q V) = RUN d y (nx, ls, aI (iI (V a b e)) :: st) (HM q V) := by
  subst he
  refine RUN_gi hcd (cs := []) ?_ trivial
  show (match am_S0 q.1.1 q.1.2 a b with
    | some (Sum.inr (c', fs)) => (match Nat.beq c' c with
      | true => go nx ls (am_fld (HM q V) a b fs j :: st) (HM q V)
      | false => stuck)
    | _ => stuck) = _
  rw [hS]
  dsimp only
  rw [Nat.beq_refl]
  dsimp only
  unfold am_fld
  rw [hf]
  rfl
theorem k_getfr {c j a b a' b' : Nat} {fs : List AV} (hcd : am_cd y pc = i_getf c j nx) (hS : am_S0 q.1.1 q.1.2 a b = some (Sum.inr (c, fs))) (hf : fs.getD j aN = aR a' b') : RUN d y (pc, ls, aR a b :: st) (HM q V) = RUN d y (nx, ls, aR a' b' :: st) (HM q V) := by
  refine RUN_gi hcd (cs := []) ?_ trivial
  show (match am_S0 q.1.1 q.1.2 a b with
    | some (Sum.inr (c', fs)) => (match Nat.beq c' c with
      | true => go nx ls (am_fld (HM q V) a b fs j :: st) (HM q V)
      | false => stuck)
    | _ => stuck) = _
  rw [hS]
  dsimp only
  rw [Nat.beq_refl]
  dsimp only
  unfold am_fld
  rw [hf]
theorem k_putfi {c j a b : Nat} {fs : List AV} {ok : Int32 → Prop} {v : Int} (e : Int) (he : Int.ofNat j = e) (hcd : am_cd y pc = i_putfi c j ok nx) (hS : am_S0 q.1.1 q.1.2 a b = some (Sum.inr (c, fs))) (hf : fs.getD j aN = aI 0) (hok : ok (iI v)) : RUN d y (pc, ls, aI (iI v) :: aR a b :: st) (HM q V) = RUN d y (nx, ls, st) (HM q (upV V a b e v)) := by
  subst he
  refine RUN_gi hcd (cs := [ok (iI v)]) ?_ ⟨hok, trivial⟩
  show (match am_S0 q.1.1 q.1.2 a b with
    | some (Sum.inr (c', fs)) => (match Nat.beq c' c, fs.getD j aN with
      | true, Sum.inl _ => goC (ok (iI v)) nx ls st (am_S0 q.1.1 q.1.2, q.2.1, upI (lft V) a b j (iI v), q.2.2)
      | _, _ => stuck)
    | _ => stuck) = _
  rw [hS]
  dsimp only
  rw [Nat.beq_refl, hf]
  dsimp only
  rw [lft_up]
  rfl
theorem k_alen {a b t n : Nat} {g : Nat → AV} (hcd : am_cd y pc = i_alen nx) (hS : am_S0 q.1.1 q.1.2 a b = some (Sum.inl (t, n, g))) : RUN d y (pc, ls, aR a b :: st) (HM q V) = RUN d y (nx, ls, aI (iI (n : Int)) :: st) (HM q V) := by
  refine RUN_gi hcd (cs := []) ?_ trivial
  show (match am_S0 q.1.1 q.1.2 a b with | some (Sum.inl (_, n, _)) => go nx ls (aI (nI n) :: st) (HM q V) | _ => stuck) = _
  rw [hS, iI_ofNat]
theorem lft_at (V : VV) (a b : Nat) {e : Int} (he : 0 ≤ e) (h2 : e < 2147483648) : lft V a b (iI e).toNatClampNeg = iI (V a b e) := by
  unfold lft
  rw [iI_nat (by omega), show Int.ofNat e.toNat = e from Int.toNat_of_nonneg he]
theorem k_iald {a b n : Nat} {g : Nat → AV} {e : Int} (hcd : am_cd y pc = i_iald nx) (hS : am_S0 q.1.1 q.1.2 a b = some (Sum.inl (0, n, g))) (hn : Nat.blt n 2147483648 = true) (he : 0 ≤ e ∧ e < (n : Int)) : RUN d y (pc, ls, aI (iI e) :: aR a b :: st) (HM q V) = RUN d y (nx, ls, aI (iI (V a b e)) :: st) (HM q V) := by
  have hn' : n < 2147483648 := Nat.blt_eq.mp hn
  refine RUN_gi hcd (cs := [vp_in (iI e) n]) ?_ ⟨iI_in he hn', trivial⟩
  show (match am_S0 q.1.1 q.1.2 a b with
    | some (Sum.inl (0, n, g)) => goC (vp_in (iI e) n) nx ls (aI (lft V a b (iI e).toNatClampNeg) :: st) (HM q V)
    | some (Sum.inl (9, n, g)) => goC (vp_in (iI e) n) nx ls (g (iI e).toNatClampNeg :: st) (HM q V)
    | _ => stuck) = _
  rw [hS]
  try dsimp only
  rw [lft_at V a b he.1 (by omega)]
  try rfl
theorem k_cald {a b n : Nat} {g : Nat → AV} {e : Int} (hcd : am_cd y pc = i_cald nx) (hS : am_S0 q.1.1 q.1.2 a b = some (Sum.inl (1, n, g))) (hn : Nat.blt n 2147483648 = true) (he : 0 ≤ e ∧ e < (n : Int)) : RUN d y (pc, ls, aI (iI e) :: aR a b :: st) (HM q V) = RUN d y (nx, ls, aI (iI (V a b e)) :: st) (HM q V) := by
  have hn' : n < 2147483648 := Nat.blt_eq.mp hn
  refine RUN_gi hcd (cs := [vp_in (iI e) n]) ?_ ⟨iI_in he hn', trivial⟩
  show (match am_S0 q.1.1 q.1.2 a b with
    | some (Sum.inl (1, n, g)) => goC (vp_in (iI e) n) nx ls (aI (lft V a b (iI e).toNatClampNeg) :: st) (HM q V)
    | _ => stuck) = _
  rw [hS]
  try dsimp only
  rw [lft_at V a b he.1 (by omega)]
  try rfl
theorem k_iast {a b n : Nat} {g : Nat → AV} {e v : Int} (hcd : am_cd y pc = i_iast nx) (hS : am_S0 q.1.1 q.1.2 a b = some (Sum.inl (0, n, g))) (hn : Nat.blt n 2147483648 = true) (he : 0 ≤ e ∧ e < (n : Int)) : RUN d y (pc, ls, aI (iI v) :: aI (iI e) :: aR a b :: st) (HM q V) = RUN d y (nx, ls, st) (HM q (upV V a b e v)) := by
  have hn' : n < 2147483648 := Nat.blt_eq.mp hn
  refine RUN_gi hcd (cs := [vp_in (iI e) n]) ?_ ⟨iI_in he hn', trivial⟩
  show (match am_S0 q.1.1 q.1.2 a b with
    | some (Sum.inl (0, n, g)) => goC (vp_in (iI e) n) nx ls st (am_S0 q.1.1 q.1.2, q.2.1, upI (lft V) a b (iI e).toNatClampNeg (iI v), q.2.2)
    | _ => stuck) = _
  rw [hS]
  try dsimp only
  rw [iI_nat (by omega), lft_upE V a b he.1]
  rfl
theorem k_cast {a b n : Nat} {g : Nat → AV} {e v : Int} (hcd : am_cd y pc = i_cast nx) (hS : am_S0 q.1.1 q.1.2 a b = some (Sum.inl (1, n, g))) (hn : Nat.blt n 2147483648 = true) (he : 0 ≤ e ∧ e < (n : Int)) (hv : 0 ≤ v ∧ v < 65536) : RUN d y (pc, ls, aI (iI v) :: aI (iI e) :: aR a b :: st) (HM q V) = RUN d y (nx, ls, st) (HM q (upV V a b e v)) := by
  have hn' : n < 2147483648 := Nat.blt_eq.mp hn
  refine RUN_gi hcd (cs := [vp_in (iI e) n ∧ narrow .char (.int (iI v)) = Value.int (iI v)]) ?_ ⟨⟨iI_in he hn', iI_char hv⟩, trivial⟩
  show (match am_S0 q.1.1 q.1.2 a b with
    | some (Sum.inl (1, n, g)) => goC (vp_in (iI e) n ∧ narrow .char (.int (iI v)) = Value.int (iI v)) nx ls st (am_S0 q.1.1 q.1.2, q.2.1, upI (lft V) a b (iI e).toNatClampNeg (iI v), q.2.2)
    | _ => stuck) = _
  rw [hS]
  try dsimp only
  rw [iI_nat (by omega), lft_upE V a b he.1]
  rfl
theorem k_aald {a b t n a' b' : Nat} {g : Nat → AV} {e : Int} (hcd : am_cd y pc = i_aald nx) (hS : am_S0 q.1.1 q.1.2 a b = some (Sum.inl (t, n, g))) (ht : t = 4 ∨ t = 5 ∨ t = 8) (hn : Nat.blt n 2147483648 = true) (he : 0 ≤ e ∧ e < (n : Int)) (hg : g e.toNat = aR a' b') : RUN d y (pc, ls, aI (iI e) :: aR a b :: st) (HM q V) = RUN d y (nx, ls, aR a' b' :: st) (HM q V) := by
  have hn' : n < 2147483648 := Nat.blt_eq.mp hn
  refine RUN_gi hcd (cs := [vp_in (iI e) n]) ?_ ⟨iI_in he hn', trivial⟩
  show (match am_S0 q.1.1 q.1.2 a b with
    | some (Sum.inl (4, n, g)) => goC (vp_in (iI e) n) nx ls (g (iI e).toNatClampNeg :: st) (HM q V)
    | some (Sum.inl (5, n, g)) => goC (vp_in (iI e) n) nx ls (g (iI e).toNatClampNeg :: st) (HM q V)
    | some (Sum.inl (6, n, g)) => goC (vp_in (iI e) n) nx ls (am_kv (lft V a b (iI e).toNatClampNeg) :: st) (HM q V)
    | some (Sum.inl (8, n, g)) => goC (vp_in (iI e) n) nx ls (g (iI e).toNatClampNeg :: st) (HM q V)
    | _ => stuck) = _
  rw [hS, ← hg, iI_nat (by omega)]
  rcases ht with rfl | rfl | rfl <;> rfl
theorem am_g12 {e : Int} (he : 0 ≤ e ∧ e < 8) : (if e.toNat < 8 then aR 2 (3 + e.toNat) else aN) = aR 2 (3 + e.toNat) := if_pos (by omega)
theorem k_iret {ok : Int32 → Prop} {x : Int} (hcd : am_cd y pc = i_iret ok) (hok : ok (iI x)) : RUN d y (pc, ls, [aI (iI x)]) h = rI x h := RUN_ei hcd rfl ⟨hok, trivial⟩
theorem k_ret (hcd : am_cd y pc = i_ret) : RUN d y (pc, ls, []) h = rV h := RUN_ei hcd rfl trivial
theorem k_throw {j : Nat} (hcd : am_cd y pc = i_throw j) (hs : Nat.ble st.length 4 = true) : RUN d y (pc, ls, st) (HM q V) = rX j (HM (thr q) V) := by
  refine RUN_ei hcd (cs := []) ?_ trivial
  show (match Nat.ble st.length 4 with | true => _ | false => stuck) = _
  rw [hs]
  rfl
/-- room: what a call makes stays made -/
def qle (q q' : QQ) : Prop := q.2.1.1 ≤ q'.2.1.1 ∧ q.2.1.2 ≤ q'.2.1.2
theorem qle_refl (q : QQ) : qle q q := ⟨Nat.le_refl _, Nat.le_refl _⟩
theorem qle_thr (q : QQ) : qle q (thr q) := ⟨Nat.le_succ _, Nat.le_add_right _ _⟩
theorem RUN_ci {y' : Nat} {ins : Ins} {as : List AV} {fr2 : Fr} {r : Option AV} {q' : QQ} {V' : VV} (hcd : am_cd y pc = ins) (e : ins (pc, ls, st) (HM q V) = ([], Sum.inr (Sum.inl (y', as, fr2)))) (ok : am_aok y' as = true)
    (hr : RUN d y' (am_en y' as) (HM q V) = some (Sum.inl r, HM q' V')) (hq : qle q q') : RUN (d + 1) y (pc, ls, st) (HM q V) = RUN (d + 1) y (fr2.1 + 3, fr2.2.1, r.toList ++ fr2.2.2) (HM q' V') := by
  subst hcd
  exact RUN_call (fr := (pc, ls, st)) (by show allP (am_cd y pc (pc, ls, st) (HM q V)).1; rw [e]; trivial) (by show (am_cd y pc (pc, ls, st) (HM q V)).2 = _; rw [e]) ok hr hq.1 hq.2
theorem RUN_cx {y' j : Nat} {ins : Ins} {as : List AV} {fr2 : Fr} {q' : QQ} {V' : VV} (hcd : am_cd y pc = ins) (e : ins (pc, ls, st) (HM q V) = ([], Sum.inr (Sum.inl (y', as, fr2)))) (ok : am_aok y' as = true)
    (hr : RUN d y' (am_en y' as) (HM q V) = rX j (HM q' V')) (hq : qle q q') (hj : Nat.blt j 6 = true) (hh : am_hd (am_hh y) fr2.1 j = none) : RUN (d + 1) y (pc, ls, st) (HM q V) = rX j (HM q' V') := by
  subst hcd
  exact RUN_callX (fr := (pc, ls, st)) (by show allP (am_cd y pc (pc, ls, st) (HM q V)).1; rw [e]; trivial) (by show (am_cd y pc (pc, ls, st) (HM q V)).2 = _; rw [e]) ok hr hq.1 hq.2 hj hh
theorem RUN_ch {y' j hp : Nat} {ins : Ins} {as : List AV} {fr2 fr3 : Fr} {q' : QQ} {V' : VV} (hcd : am_cd y pc = ins) (e : ins (pc, ls, st) (HM q V) = ([], Sum.inr (Sum.inl (y', as, fr2)))) (ok : am_aok y' as = true)
    (hr : RUN d y' (am_en y' as) (HM q V) = rX j (HM q' V')) (hq : qle q q') (hj : Nat.blt j 6 = true) (hh : am_hd (am_hh y) fr2.1 j = some hp) (hc : am_cat y fr2 hp = some fr3) : RUN (d + 1) y (pc, ls, st) (HM q V) = RUN (d + 1) y fr3 (HM q' V') := by
  subst hcd
  exact RUN_callH (fr := (pc, ls, st)) (by show allP (am_cd y pc (pc, ls, st) (HM q V)).1; rw [e]; trivial) (by show (am_cd y pc (pc, ls, st) (HM q V)).2 = _; rw [e]) ok hr hq.1 hq.2 hj hh hc
end
