/-! rows on later cells: objects, rows of bytes, their copies, calls on them -/
theorem fitsB {z : Int} (h : -128 ≤ z ∧ z ≤ 127) : fits .byte (.int (iI z)) = true := by
  have key : ∀ k : Nat, k < 256 → fits .byte (.int (iI ((k : Int) - 128))) = true := by decide +kernel
  have := key (z + 128).toNat (by omega)
  rw [show ((z + 128).toNat : Int) - 128 = z by omega] at this
  exact this
theorem i2b_asc {z : Int} (h : 0 ≤ z ∧ z < 128) : (iI z).toInt8.toInt32 = iI z := by
  have key : ∀ k : Nat, k < 128 → (iI (k : Int)).toInt8.toInt32 = iI (k : Int) := by decide +kernel
  have := key z.toNat (by omega)
  rw [show (z.toNat : Int) = z by omega] at this
  exact this
theorem narB {z : Int} (h : 0 ≤ z ∧ z < 128) : narrow .byte (.int (iI z)) = .int (iI z) := congrArg Value.int (i2b_asc h)
section
variable {d y pc nx : Nat} {ls : List (Option AV)} {st : List AV} {q : QQ} {V : VV}
theorem k_new46 {c N : Nat} {fs : List AV} (hcd : am_cd y pc = i_new c N fs nx) (hn : 136 ≤ q.2.1.1) : RUN d y (pc, ls, st) (HM q V) = RUN d y (nx, ls, aR 46 q.2.1.1 :: st) (HM (newQ q (some (Sum.inr (c, fs))) N) (setA V 46 q.2.1.1 (fun _ => 0))) := by
  refine RUN_gi (cs := []) hcd ?_ trivial
  show go nx ls (Sum.inr (Sum.inl (am_al q.2.1.1)) :: st) (upS (am_S0 q.1.1 q.1.2) (am_al q.2.1.1).1 (am_al q.2.1.1).2 (some (Sum.inr (c, fs))), (q.2.1.1 + 1, q.2.1.2 + N), upA (lft V) (am_al q.2.1.1).1 (am_al q.2.1.1).2 (fun _ => 0), q.2.2) = _
  rw [am_al46 hn]
  dsimp only
  rw [upS_46, lft_setA (g := fun _ => (0 : Int32)) (f := fun _ => 0) (fun _ => rfl)]
  rfl
theorem k_newB46 {n : Int} (hcd : am_cd y pc = i_newaB nx) (hn : 136 ≤ q.2.1.1) (h : 0 ≤ n ∧ n < 65536) : RUN d y (pc, ls, aI (iI n) :: st) (HM q V) = RUN d y (nx, ls, aR 46 q.2.1.1 :: st) (HM (newQ q (some (Sum.inl (7, n.toNat, fun _ => aN))) n.toNat) (setA V 46 q.2.1.1 (fun _ => 0))) := by
  have e : (iI n).toNatClampNeg = n.toNat := iI_nat (by omega)
  have e2 : iI n = nI n.toNat := by
    rw [← iI_ofNat, show (n.toNat : Int) = n by omega]
  refine RUN_gi (cs := [iI n = nI (iI n).toNatClampNeg ∧ (iI n).toNatClampNeg < 65536]) hcd ?_ ⟨⟨by rw [e]; exact e2, by rw [e]; omega⟩, trivial⟩
  show goC (iI n = nI (iI n).toNatClampNeg ∧ (iI n).toNatClampNeg < 65536) nx ls (Sum.inr (Sum.inl (am_al q.2.1.1)) :: st) (upS (am_S0 q.1.1 q.1.2) (am_al q.2.1.1).1 (am_al q.2.1.1).2 (some (Sum.inl (7, (iI n).toNatClampNeg, fun _ => aN))), (q.2.1.1 + 1, q.2.1.2 + (iI n).toNatClampNeg), upA (lft V) (am_al q.2.1.1).1 (am_al q.2.1.1).2 (fun _ => 0), q.2.2) = _
  rw [am_al46 hn]
  dsimp only
  rw [upS_46, lft_setA (g := fun _ => (0 : Int32)) (f := fun _ => 0) (fun _ => rfl), e]
  rfl
theorem k_clone46 {b n : Nat} {g : Nat → AV} (hcd : am_cd y pc = i_clone nx) (hn : 136 ≤ q.2.1.1) (hs : Nat.ble st.length 4 = true) (hS : q.1.2.2 b = some (Sum.inl (7, n, g))) (hf : ∀ j : Int, 0 ≤ j → j < n → -128 ≤ V 46 b j ∧ V 46 b j ≤ 127) : RUN d y (pc, ls, aR 46 b :: st) (HM q V) = RUN d y (nx, ls, aR 46 q.2.1.1 :: st) (HM (newQ q (some (Sum.inl (7, n, fun _ => aN))) n) (setA V 46 q.2.1.1 (V 46 b))) := by
  refine RUN_gi (cs := [∀ j, j < n → fits .byte (.int (lft V 46 b j)) = true]) hcd ?_ ⟨fun j hj => fitsB (hf (Int.ofNat j) (Int.ofNat_nonneg j) (Int.ofNat_lt.mpr hj)), trivial⟩
  show (match Nat.ble st.length 4, am_S0 q.1.1 q.1.2 46 b with
    | true, some (Sum.inl (7, n, _)) => goC (∀ j, j < n → fits .byte (.int (lft V 46 b j)) = true) nx ls (Sum.inr (Sum.inl (am_al q.2.1.1)) :: st)
      (upS (am_S0 q.1.1 q.1.2) (am_al q.2.1.1).1 (am_al q.2.1.1).2 (some (Sum.inl (7, n, fun _ => aN))), (q.2.1.1 + 1, q.2.1.2 + n), upA (lft V) (am_al q.2.1.1).1 (am_al q.2.1.1).2 (lft V 46 b), q.2.2)
    | _, _ => stuck) = _
  rw [hs, show am_S0 q.1.1 q.1.2 46 b = some (Sum.inl (7, n, g)) from hS]
  show goC (∀ j, j < n → fits .byte (.int (lft V 46 b j)) = true) nx ls (Sum.inr (Sum.inl (am_al q.2.1.1)) :: st)
      (upS (am_S0 q.1.1 q.1.2) (am_al q.2.1.1).1 (am_al q.2.1.1).2 (some (Sum.inl (7, n, fun _ => aN))), (q.2.1.1 + 1, q.2.1.2 + n), upA (lft V) (am_al q.2.1.1).1 (am_al q.2.1.1).2 (lft V 46 b), q.2.2) = _
  rw [am_al46 hn]
  dsimp only
  rw [upS_46, lft_setA (g := lft V 46 b) (f := V 46 b) (fun _ => rfl)]
  rfl
theorem k_chkB46 {b n : Nat} {g : Nat → AV} (hcd : am_cd y pc = i_chkB nx) (hS : q.1.2.2 b = some (Sum.inl (7, n, g))) : RUN d y (pc, ls, aR 46 b :: st) (HM q V) = RUN d y (nx, ls, aR 46 b :: st) (HM q V) := by
  refine RUN_gi (cs := []) hcd ?_ trivial
  show (match am_S0 q.1.1 q.1.2 46 b with
    | some (Sum.inl (7, _, _)) => go nx ls (Sum.inr (Sum.inl (46, b)) :: st) (HM q V)
    | _ => stuck) = _
  rw [show am_S0 q.1.1 q.1.2 46 b = some (Sum.inl (7, n, g)) from hS]
  rfl
theorem k_putfr46 {c j b x z : Nat} {fs : List AV} (hcd : am_cd y pc = i_putfr c j nx) (hS : q.1.2.2 b = some (Sum.inr (c, fs))) : RUN d y (pc, ls, aR x z :: aR 46 b :: st) (HM q V) = RUN d y (nx, ls, st) (HM (setQ q b (some (Sum.inr (c, fs.set j (aR x z))))) V) := by
  refine RUN_gi (cs := []) hcd ?_ trivial
  show (match am_S0 q.1.1 q.1.2 46 b with
    | some (Sum.inr (c', fs)) => (match Nat.beq c' c with
      | true => go nx ls st (upS (am_S0 q.1.1 q.1.2) 46 b (some (Sum.inr (c', fs.set j (Sum.inr (Sum.inl (x, z)))))), (HM q V).2)
      | _ => stuck)
    | _ => stuck) = _
  rw [show am_S0 q.1.1 q.1.2 46 b = some (Sum.inr (c, fs)) from hS]
  dsimp only
  rw [Nat.beq_refl]
  dsimp only
  rw [upS_46]
  rfl
theorem k_bald46 {b n : Nat} {g : Nat → AV} {e : Int} (hcd : am_cd y pc = i_bald nx) (hS : q.1.2.2 b = some (Sum.inl (7, n, g))) (hn : n < 2147483648) (he : 0 ≤ e ∧ e < (n : Int)) : RUN d y (pc, ls, aI (iI e) :: aR 46 b :: st) (HM q V) = RUN d y (nx, ls, aI (iI (V 46 b e)) :: st) (HM q V) := by
  refine RUN_gi hcd (cs := [vp_in (iI e) n]) ?_ ⟨iI_in he hn, trivial⟩
  show (match am_S0 q.1.1 q.1.2 46 b with
    | some (Sum.inl (10, n, g)) => goC (vp_in (iI e) n) nx ls (g (iI e).toNatClampNeg :: st) (HM q V)
    | some (Sum.inl (7, n, g)) => goC (vp_in (iI e) n) nx ls (aI (lft V 46 b (iI e).toNatClampNeg) :: st) (HM q V)
    | _ => stuck) = _
  rw [show am_S0 q.1.1 q.1.2 46 b = some (Sum.inl (7, n, g)) from hS]
  try dsimp only
  rw [lft_at V 46 b he.1 (by omega)]
  try rfl
/-- out of a row of the start -/
theorem k_bald0 {b n : Nat} {g : Nat → AV} {e : Int} {v : AV} (hcd : am_cd y pc = i_bald nx) (hS : am_PS q.1.1 q.1.2.1 b = some (Sum.inl (10, n, g))) (hn : n < 2147483648) (he : 0 ≤ e ∧ e < (n : Int)) (hv : g e.toNat = v) : RUN d y (pc, ls, aI (iI e) :: aR 0 b :: st) (HM q V) = RUN d y (nx, ls, v :: st) (HM q V) := by
  refine RUN_gi hcd (cs := [vp_in (iI e) n]) ?_ ⟨iI_in he hn, trivial⟩
  show (match am_PS q.1.1 q.1.2.1 b with
    | some (Sum.inl (10, n, g)) => goC (vp_in (iI e) n) nx ls (g (iI e).toNatClampNeg :: st) (HM q V)
    | some (Sum.inl (7, n, g)) => goC (vp_in (iI e) n) nx ls (aI (lft V 0 b (iI e).toNatClampNeg) :: st) (HM q V)
    | _ => stuck) = _
  rw [hS]
  show goC (vp_in (iI e) n) nx ls (g (iI e).toNatClampNeg :: st) (HM q V) = _
  rw [iI_nat (by omega), hv]
  try rfl
theorem k_bast46 {b n : Nat} {g : Nat → AV} {e v : Int} (hcd : am_cd y pc = i_bast nx) (hS : q.1.2.2 b = some (Sum.inl (7, n, g))) (hn : n < 2147483648) (he : 0 ≤ e ∧ e < (n : Int)) (hv : 0 ≤ v ∧ v < 128) : RUN d y (pc, ls, aI (iI v) :: aI (iI e) :: aR 46 b :: st) (HM q V) = RUN d y (nx, ls, st) (HM q (upV V 46 b e v)) := by
  refine RUN_gi hcd (cs := [vp_in (iI e) n ∧ narrow .byte (Value.int (iI v)) = Value.int (iI v)]) ?_ ⟨⟨iI_in he hn, narB hv⟩, trivial⟩
  show (match am_S0 q.1.1 q.1.2 46 b with
    | some (Sum.inl (7, n, g)) => goC (vp_in (iI e) n ∧ narrow .byte (Value.int (iI v)) = Value.int (iI v)) nx ls st (am_S0 q.1.1 q.1.2, q.2.1, upI (lft V) 46 b (iI e).toNatClampNeg (iI v), q.2.2)
    | _ => stuck) = _
  rw [show am_S0 q.1.1 q.1.2 46 b = some (Sum.inl (7, n, g)) from hS]
  try dsimp only
  rw [iI_nat (by omega), lft_upE V 46 b he.1]
  rfl
theorem k_acpyB46 {b b0 n1 n0 : Nat} {g g0 : Nat → AV} {sp dp n : Int} (hcd : am_cd y pc = i_acpyB nx) (hs : Nat.ble st.length 4 = true) (hS : q.1.2.2 b = some (Sum.inl (7, n1, g))) (hS0 : q.1.2.2 b0 = some (Sum.inl (7, n0, g0))) (hf : ∀ j : Int, 0 ≤ j → j < n0 → -128 ≤ V 46 b0 j ∧ V 46 b0 j ≤ 127)
    (h1 : 0 ≤ sp ∧ sp < 2147483648) (h2 : 0 ≤ dp ∧ dp < 2147483648) (h3 : 0 ≤ n ∧ n < 2147483648) (h4 : sp + n ≤ (n0 : Int)) (h5 : dp + n ≤ (n1 : Int)) :
    RUN d y (pc, ls, aI (iI n) :: aI (iI dp) :: aR 46 b :: aI (iI sp) :: aR 46 b0 :: st) (HM q V) = RUN d y (nx, ls, st) (HM q (cpV V 46 b 46 b0 sp dp n)) := by
  refine RUN_gi hcd (cs := [(∀ j, j < n0 → fits .byte (.int (lft V 46 b0 j)) = true) ∧ ¬ iI sp < 0 ∧ ¬ iI dp < 0 ∧ ¬ iI n < 0 ∧ (iI sp).toNatClampNeg + (iI n).toNatClampNeg ≤ n0 ∧ (iI dp).toNatClampNeg + (iI n).toNatClampNeg ≤ n1]) ?_ ⟨⟨fun j hj => fitsB (hf (Int.ofNat j) (Int.ofNat_nonneg j) (Int.ofNat_lt.mpr hj)), ?_, ?_, ?_, ?_, ?_⟩, trivial⟩
  · show (match Nat.ble st.length 4, am_S0 q.1.1 q.1.2 46 b, am_S0 q.1.1 q.1.2 46 b0 with
      | true, some (Sum.inl (7, n1, _)), some (Sum.inl (7, n0, _)) => goC ((∀ j, j < n0 → fits .byte (.int (lft V 46 b0 j)) = true) ∧ ¬ iI sp < 0 ∧ ¬ iI dp < 0 ∧ ¬ iI n < 0 ∧ (iI sp).toNatClampNeg + (iI n).toNatClampNeg ≤ n0 ∧ (iI dp).toNatClampNeg + (iI n).toNatClampNeg ≤ n1) nx ls st
        (am_S0 q.1.1 q.1.2, q.2.1, upA (lft V) 46 b (va_cpy (lft V 46 b0) (lft V 46 b) (iI sp).toNatClampNeg (iI dp).toNatClampNeg (iI n).toNatClampNeg), q.2.2)
      | true, some (Sum.inl (7, n1, _)), some (Sum.inl (10, n0, g)) => goC ((∀ j, j < n0 → g j = aI (am_int (g j)) ∧ fits .byte (.int (am_int (g j))) = true) ∧ ¬ iI sp < 0 ∧ ¬ iI dp < 0 ∧ ¬ iI n < 0 ∧ (iI sp).toNatClampNeg + (iI n).toNatClampNeg ≤ n0 ∧ (iI dp).toNatClampNeg + (iI n).toNatClampNeg ≤ n1) nx ls st
        (am_S0 q.1.1 q.1.2, q.2.1, upA (lft V) 46 b (va_cpy (fun j => am_int (g j)) (lft V 46 b) (iI sp).toNatClampNeg (iI dp).toNatClampNeg (iI n).toNatClampNeg), q.2.2)
      | _, _, _ => stuck) = _
    rw [hs, show am_S0 q.1.1 q.1.2 46 b = some (Sum.inl (7, n1, g)) from hS, show am_S0 q.1.1 q.1.2 46 b0 = some (Sum.inl (7, n0, g0)) from hS0, lft_cp V 46 b 46 b0 h1 h2 h3]
    rfl
  · rw [iI_lt0 (by omega)]; omega
  · rw [iI_lt0 (by omega)]; omega
  · rw [iI_lt0 (by omega)]; omega
  · rw [iI_nat (by omega), iI_nat (by omega)]; omega
  · rw [iI_nat (by omega), iI_nat (by omega)]; omega
/-- numbers laid from a place on -/
def layV (V : VV) (b : Nat) (dp n : Int) (T : Int → Int) : VV := fun a' b' j => cond (Nat.beq a' 46 && Nat.beq b' b) (if dp ≤ j ∧ j < dp + n then T (j - dp) else V a' b' j) (V a' b' j)
theorem lft_lay (V : VV) (b : Nat) (G : Nat → Int32) {dp n : Int} {T : Int → Int} (h2 : 0 ≤ dp ∧ dp < 2147483648) (h3 : 0 ≤ n ∧ n < 2147483648) (hT : ∀ j : Nat, (j : Int) < n → G j = iI (T j)) : upA (lft V) 46 b (va_cpy G (lft V 46 b) (iI 0).toNatClampNeg (iI dp).toNatClampNeg (iI n).toNatClampNeg) = lft (layV V b dp n T) := by
  rw [iI_nat (by omega), iI_nat (by omega), iI_nat (by omega)]
  funext a' b' j
  unfold upA lft layV
  cases ha : Nat.beq a' 46 with
  | false =>
    rw [if_neg (fun q => by rw [q.1, Nat.beq_refl] at ha; cases ha)]
    rfl
  | true =>
    cases hb : Nat.beq b' b with
    | false =>
      rw [if_neg (fun q => by rw [q.2, Nat.beq_refl] at hb; cases hb)]
      rfl
    | true =>
      have e1 := Nat.eq_of_beq_eq_true ha
      have e2 := Nat.eq_of_beq_eq_true hb
      subst e1
      subst e2
      rw [if_pos ⟨rfl, rfl⟩]
      show va_cpy G _ _ _ _ j = iI (if dp ≤ Int.ofNat j ∧ Int.ofNat j < dp + n then T (Int.ofNat j - dp) else V 46 b' (Int.ofNat j))
      unfold va_cpy
      have ej : Int.ofNat j = (j : Int) := rfl
      by_cases c : dp.toNat ≤ j ∧ j < dp.toNat + n.toNat
      · rw [if_pos c, if_pos (by rw [ej]; omega), hT _ (by show ((Int.toNat 0 + (j - dp.toNat) : Nat) : Int) < n; omega)]
        have : ((Int.toNat 0 + (j - dp.toNat) : Nat) : Int) = Int.ofNat j - dp := by
          show ((0 + (j - dp.toNat) : Nat) : Int) = _
          omega
        rw [this]
      · rw [if_neg c, if_neg (by rw [ej]; omega)]
/-- a text of the start is laid into a made row -/
theorem k_acpyB0 {b b0 n1 n0 : Nat} {g g0 : Nat → AV} {dp n : Int} {T : Int → Int} (hcd : am_cd y pc = i_acpyB nx) (hs : Nat.ble st.length 4 = true) (hS : q.1.2.2 b = some (Sum.inl (7, n1, g))) (hS0 : am_PS q.1.1 q.1.2.1 b0 = some (Sum.inl (10, n0, g0))) (hg : ∀ j : Nat, j < n0 → g0 j = aI (iI (T j)) ∧ (0 ≤ T j ∧ T j < 128))
    (h2 : 0 ≤ dp ∧ dp < 2147483648) (h3 : 0 ≤ n ∧ n < 2147483648) (h4 : n ≤ (n0 : Int)) (h5 : dp + n ≤ (n1 : Int)) :
    RUN d y (pc, ls, aI (iI n) :: aI (iI dp) :: aR 46 b :: aI (iI 0) :: aR 0 b0 :: st) (HM q V) = RUN d y (nx, ls, st) (HM q (layV V b dp n T)) := by
  refine RUN_gi hcd (cs := [(∀ j, j < n0 → g0 j = aI (am_int (g0 j)) ∧ fits .byte (.int (am_int (g0 j))) = true) ∧ ¬ iI 0 < 0 ∧ ¬ iI dp < 0 ∧ ¬ iI n < 0 ∧ (iI 0).toNatClampNeg + (iI n).toNatClampNeg ≤ n0 ∧ (iI dp).toNatClampNeg + (iI n).toNatClampNeg ≤ n1]) ?_ ⟨⟨fun j hj => ?_, ?_, ?_, ?_, ?_, ?_⟩, trivial⟩
  · show (match Nat.ble st.length 4, am_S0 q.1.1 q.1.2 46 b, am_PS q.1.1 q.1.2.1 b0 with
      | true, some (Sum.inl (7, n1, _)), some (Sum.inl (7, n0, _)) => goC ((∀ j, j < n0 → fits .byte (.int (lft V 0 b0 j)) = true) ∧ ¬ iI 0 < 0 ∧ ¬ iI dp < 0 ∧ ¬ iI n < 0 ∧ (iI 0).toNatClampNeg + (iI n).toNatClampNeg ≤ n0 ∧ (iI dp).toNatClampNeg + (iI n).toNatClampNeg ≤ n1) nx ls st
        (am_S0 q.1.1 q.1.2, q.2.1, upA (lft V) 46 b (va_cpy (lft V 0 b0) (lft V 46 b) (iI 0).toNatClampNeg (iI dp).toNatClampNeg (iI n).toNatClampNeg), q.2.2)
      | true, some (Sum.inl (7, n1, _)), some (Sum.inl (10, n0, g)) => goC ((∀ j, j < n0 → g j = aI (am_int (g j)) ∧ fits .byte (.int (am_int (g j))) = true) ∧ ¬ iI 0 < 0 ∧ ¬ iI dp < 0 ∧ ¬ iI n < 0 ∧ (iI 0).toNatClampNeg + (iI n).toNatClampNeg ≤ n0 ∧ (iI dp).toNatClampNeg + (iI n).toNatClampNeg ≤ n1) nx ls st
        (am_S0 q.1.1 q.1.2, q.2.1, upA (lft V) 46 b (va_cpy (fun j => am_int (g j)) (lft V 46 b) (iI 0).toNatClampNeg (iI dp).toNatClampNeg (iI n).toNatClampNeg), q.2.2)
      | _, _, _ => stuck) = _
    rw [hs, show am_S0 q.1.1 q.1.2 46 b = some (Sum.inl (7, n1, g)) from hS, hS0]
    show goC ((∀ j, j < n0 → g0 j = aI (am_int (g0 j)) ∧ fits .byte (.int (am_int (g0 j))) = true) ∧ ¬ iI 0 < 0 ∧ ¬ iI dp < 0 ∧ ¬ iI n < 0 ∧ (iI 0).toNatClampNeg + (iI n).toNatClampNeg ≤ n0 ∧ (iI dp).toNatClampNeg + (iI n).toNatClampNeg ≤ n1) nx ls st
        (am_S0 q.1.1 q.1.2, q.2.1, upA (lft V) 46 b (va_cpy (fun j => am_int (g0 j)) (lft V 46 b) (iI 0).toNatClampNeg (iI dp).toNatClampNeg (iI n).toNatClampNeg), q.2.2) = _
    rw [lft_lay V b (fun j => am_int (g0 j)) (T := T) h2 h3 (fun j hj => by rw [(hg j (by omega)).1]; rfl)]
    rfl
  · rw [(hg j hj).1]
    exact ⟨rfl, fitsB (by have := (hg j hj).2; omega)⟩
  · rw [iI_lt0 (by omega)]; omega
  · rw [iI_lt0 (by omega)]; omega
  · rw [iI_lt0 (by omega)]; omega
  · rw [iI_nat (by omega), iI_nat (by omega)]; show Int.toNat 0 + n.toNat ≤ n0; omega
  · rw [iI_nat (by omega), iI_nat (by omega)]; omega
theorem k_oinit46 {b : Nat} (hcd : am_cd y pc = i_oinit nx) (hs : Nat.ble st.length 4 = true) : RUN d y (pc, ls, aR 46 b :: st) (HM q V) = RUN d y (nx, ls, st) (HM q V) := by
  refine RUN_gi (cs := []) hcd ?_ trivial
  show (match Nat.ble st.length 4 with | true => go nx ls st (HM q V) | false => stuck) = _
  rw [hs]
theorem k_popR {a b : Nat} (hcd : am_cd y pc = i_pop nx) : RUN d y (pc, ls, aR a b :: st) (HM q V) = RUN d y (nx, ls, st) (HM q V) := RUN_gi hcd rfl trivial
theorem k_aretR {a b : Nat} (hcd : am_cd y pc = i_aret) : RUN d y (pc, ls, [aR a b]) (HM q V) = some (Sum.inl (some (aR a b)), HM q V) := RUN_ei hcd (cs := [am_rf (aR a b) = true]) rfl ⟨rfl, trivial⟩
theorem c0_46 {y' c b : Nat} {fs : List AV} (hS : q.1.2.2 b = some (Sum.inr (c, fs))) (hs : Nat.ble st.length 4 = true) : i_call y' 0 c (pc, ls, aR 46 b :: st) (HM q V) = ([], Sum.inr (Sum.inl (y', [aR 46 b], (pc, ls, st)))) := by
  show (match am_S0 q.1.1 q.1.2 46 b with
    | some (Sum.inr (c', _)) => (match Nat.beq c' c, Nat.ble st.length 4 with
      | true, true => ([], Sum.inr (Sum.inl (y', Sum.inr (Sum.inl (46, b)) :: [], (pc, ls, st))))
      | _, _ => stuck)
    | _ => stuck) = _
  rw [show am_S0 q.1.1 q.1.2 46 b = some (Sum.inr (c, fs)) from hS]
  dsimp only
  rw [Nat.beq_refl, hs]
theorem c1_46 {y' c b : Nat} {x : AV} {fs : List AV} (hS : q.1.2.2 b = some (Sum.inr (c, fs))) (hs : Nat.ble st.length 4 = true) : i_call y' 1 c (pc, ls, x :: aR 46 b :: st) (HM q V) = ([], Sum.inr (Sum.inl (y', [aR 46 b, x], (pc, ls, st)))) := by
  show (match am_S0 q.1.1 q.1.2 46 b with
    | some (Sum.inr (c', _)) => (match Nat.beq c' c, Nat.ble st.length 4 with
      | true, true => ([], Sum.inr (Sum.inl (y', Sum.inr (Sum.inl (46, b)) :: [x], (pc, ls, st))))
      | _, _ => stuck)
    | _ => stuck) = _
  rw [show am_S0 q.1.1 q.1.2 46 b = some (Sum.inr (c, fs)) from hS]
  dsimp only
  rw [Nat.beq_refl, hs]
theorem c2_46 {y' c b : Nat} {x z : AV} {fs : List AV} (hS : q.1.2.2 b = some (Sum.inr (c, fs))) (hs : Nat.ble st.length 4 = true) : i_call y' 2 c (pc, ls, z :: x :: aR 46 b :: st) (HM q V) = ([], Sum.inr (Sum.inl (y', [aR 46 b, x, z], (pc, ls, st)))) := by
  show (match am_S0 q.1.1 q.1.2 46 b with
    | some (Sum.inr (c', _)) => (match Nat.beq c' c, Nat.ble st.length 4 with
      | true, true => ([], Sum.inr (Sum.inl (y', Sum.inr (Sum.inl (46, b)) :: [x, z], (pc, ls, st))))
      | _, _ => stuck)
    | _ => stuck) = _
  rw [show am_S0 q.1.1 q.1.2 46 b = some (Sum.inr (c, fs)) from hS]
  dsimp only
  rw [Nat.beq_refl, hs]
theorem c3_46 {y' c b : Nat} {x z w : AV} {fs : List AV} (hS : q.1.2.2 b = some (Sum.inr (c, fs))) (hs : Nat.ble st.length 4 = true) : i_call y' 3 c (pc, ls, w :: z :: x :: aR 46 b :: st) (HM q V) = ([], Sum.inr (Sum.inl (y', [aR 46 b, x, z, w], (pc, ls, st)))) := by
  show (match am_S0 q.1.1 q.1.2 46 b with
    | some (Sum.inr (c', _)) => (match Nat.beq c' c, Nat.ble st.length 4 with
      | true, true => ([], Sum.inr (Sum.inl (y', Sum.inr (Sum.inl (46, b)) :: [x, z, w], (pc, ls, st))))
      | _, _ => stuck)
    | _ => stuck) = _
  rw [show am_S0 q.1.1 q.1.2 46 b = some (Sum.inr (c, fs)) from hS]
  dsimp only
  rw [Nat.beq_refl, hs]
end
theorem newQ_old {q : QQ} {s : SC} {sl x : Nat} (h : ¬ x = q.2.1.1) : (newQ q s sl).1.2.2 x = q.1.2.2 x := by
  show cond (Nat.beq x q.2.1.1) s (q.1.2.2 x) = _
  cases k : Nat.beq x q.2.1.1 with
  | true => exact absurd (Nat.eq_of_beq_eq_true k) h
  | false => rfl
theorem setQ_at {q : QQ} {s : SC} {b : Nat} : (setQ q b s).1.2.2 b = s := by
  show cond (Nat.beq b b) s _ = s
  rw [Nat.beq_refl]
  rfl
theorem setQ_old {q : QQ} {s : SC} {b x : Nat} (h : ¬ x = b) : (setQ q b s).1.2.2 x = q.1.2.2 x := by
  show cond (Nat.beq x b) s (q.1.2.2 x) = _
  cases k : Nat.beq x b with
  | true => exact absurd (Nat.eq_of_beq_eq_true k) h
  | false => rfl
theorem setQ_adv {n0 : Nat} {q : QQ} {s : SC} {b : Nat} (h : n0 ≤ b) : adv 0 0 n0 q (setQ q b s) := ⟨⟨rfl, rfl, fun x hx => setQ_old (by omega)⟩, rfl, ⟨Nat.le_refl _, Nat.le_refl _⟩, Nat.le_refl _, Nat.le_refl _⟩
