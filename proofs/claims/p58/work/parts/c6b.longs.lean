/-! long numbers, as integers -/
def lI (z : Int) : Int64 := Int64.ofInt z
abbrev R64 (z : Int) : Prop := -9223372036854775808 ≤ z ∧ z < 9223372036854775808
abbrev sL (z : Int) : Option AV := some (aL (lI z))
abbrev rL (z : Int) (h : AH) : Option (Out × AH) := some (Sum.inl (some (aL (lI z))), h)
theorem lI_add (a b : Int) : lI a + lI b = lI (a + b) := (Int64.ofInt_add a b).symm
theorem lI_mul (a b : Int) : lI a * lI b = lI (a * b) := (Int64.ofInt_mul a b).symm
theorem lI_of (x : Int64) : lI x.toInt = x := Int64.ofInt_toInt x
theorem lI_to {z : Int} (h : R64 z) : (lI z).toInt = z := by
  have e : z.bmod (2 ^ 64) = z := Int.bmod_eq_of_le (by omega) (by omega)
  unfold lI
  rw [Int64.toInt_ofInt]
  exact e
theorem lI_i {a : Int} (h : R32 a) : (iI a).toInt64 = lI a := by
  rw [← lI_of (iI a).toInt64, Int32.toInt_toInt64, iI_to h]
def lcF (a b : Int) : Int := (lg_cmp (lI a) (lI b)).toInt
theorem lcF_R (a b : Int) : R32 (lcF a b) := ⟨Int32.le_toInt _, Int32.toInt_lt _⟩
theorem lcF_self (a : Int) : lcF a a = 0 := by
  unfold lcF lg_cmp
  rw [if_neg (show ¬ lI a > lI a from fun z => Int64.lt_irrefl z), if_pos rfl]
  rfl
theorem lcF_0 {a b : Int} (ha : R64 a) (hb : R64 b) : lcF a b = 0 ↔ a = b := by
  have e : iI (lcF a b) = lg_cmp (lI a) (lI b) := iI_of _
  constructor
  · intro h
    rw [h] at e
    have l1 := (lg_cmp_le (lI a) (lI b)).mp (by rw [← e]; decide)
    have l2 := (lg_cmp_ge (lI a) (lI b)).mp (by rw [← e]; decide)
    rw [Int64.le_iff_toInt_le, lI_to ha, lI_to hb] at l1
    rw [Int64.le_iff_toInt_le, lI_to ha, lI_to hb] at l2
    omega
  · intro h
    subst h
    exact lcF_self a
theorem lcF_le {a b : Int} (ha : R64 a) (hb : R64 b) : lcF a b ≤ 0 ↔ a ≤ b := by
  have e : iI (lcF a b) = lg_cmp (lI a) (lI b) := iI_of _
  have h := lg_cmp_le (lI a) (lI b)
  rw [← e, Int64.le_iff_toInt_le, lI_to ha, lI_to hb] at h
  rw [← h]
  exact (iI_le0 (lcF_R a b)).symm
/-- an element of a later cell of long numbers -/
def jj (q : QQ) (b : Nat) (i : Int) : Int := (q.2.2.1 46 b i.toNat).toInt
def stJ (q : QQ) (b : Nat) (i v : Int) : QQ := (q.1, q.2.1, upJ q.2.2.1 46 b i.toNat (lI v), q.2.2.2)
def newJ (q : QQ) (N : Nat) : QQ := ((newQ q (some (Sum.inl (2, N, fun _ => aN))) N).1, (q.2.1.1 + 1, q.2.1.2 + N), upA q.2.2.1 46 q.2.1.1 (fun _ => 0), q.2.2.2)
theorem jj_st {q : QQ} {b : Nat} {i v j : Int} (hi : 0 ≤ i) (hj : 0 ≤ j) (hv : R64 v) : jj (stJ q b i v) b j = if j = i then v else jj q b j := by
  show (if 46 = 46 ∧ b = b ∧ j.toNat = i.toNat then lI v else q.2.2.1 46 b j.toNat).toInt = _
  by_cases c : j = i
  · subst c
    rw [if_pos ⟨rfl, rfl, rfl⟩, if_pos rfl, lI_to hv]
  · rw [if_neg (fun z => by have := z.2.2; omega), if_neg c]
    rfl
theorem jj_off {q : QQ} {b b' : Nat} {i v j : Int} (h : ¬ b' = b) : jj (stJ q b i v) b' j = jj q b' j := by
  show (if 46 = 46 ∧ b' = b ∧ j.toNat = i.toNat then lI v else q.2.2.1 46 b' j.toNat).toInt = _
  rw [if_neg (fun z => h z.2.1)]
  rfl
theorem jj_new {q : QQ} {N : Nat} {j : Int} : jj (newJ q N) q.2.1.1 j = 0 := by
  show (upA q.2.2.1 46 q.2.1.1 (fun _ => 0) 46 q.2.1.1 j.toNat).toInt = 0
  unfold upA
  rw [if_pos ⟨rfl, rfl⟩]
  rfl
section
variable {d y pc nx : Nat} {ls : List (Option AV)} {st : List AV} {h : AH} {q : QQ} {V : VV}
theorem k_pushl {v : Int64} (n : Int) (hcd : am_cd y pc = i_push (aL v) nx) (hv : v = lI n) : RUN d y (pc, ls, st) h = RUN d y (nx, ls, aL (lI n) :: st) h := by
  subst hv
  exact RUN_gi hcd rfl trivial
theorem k_lload {i : Nat} {x : Int64} (hcd : am_cd y pc = i_lload i nx) (hl : ls[i]? = some (some (aL x))) : RUN d y (pc, ls, st) h = RUN d y (nx, ls, aL x :: st) h := by
  refine RUN_gi hcd (cs := []) ?_ trivial
  show (match ls[i]? with | some (some (Sum.inr (Sum.inr (Sum.inl x)))) => go nx ls (aL x :: st) h | _ => stuck) = _
  rw [hl]
theorem k_lstore {i : Nat} {x : Int64} (hcd : am_cd y pc = i_lstore i nx) : RUN d y (pc, ls, aL x :: st) h = RUN d y (nx, (ls.set i (some (aL x))).set (i + 1) none, st) h := RUN_gi hcd rfl trivial
theorem k_storeC {i : Nat} {x z : Int32} (hcd : am_cd y pc = i_storeC i nx) (hl : ls[i - 1]? = some (some (aI z))) : RUN d y (pc, ls, aI x :: st) h = RUN d y (nx, ls.set i (some (aI x)), st) h := by
  refine RUN_gi hcd (cs := [∀ w, ls[i - 1]? = some (some w) → am_c2 w = false]) rfl ⟨fun w e => ?_, trivial⟩
  rw [hl] at e
  have e2 : aI z = w := Option.some.inj (Option.some.inj e)
  rw [← e2]
  rfl
theorem k_ladd {a b : Int} (hcd : am_cd y pc = i_ladd nx) : RUN d y (pc, ls, aL (lI b) :: aL (lI a) :: st) h = RUN d y (nx, ls, aL (lI (a + b)) :: st) h := by
  rw [← lI_add]
  exact RUN_gi hcd rfl trivial
theorem k_lmul {a b : Int} (hcd : am_cd y pc = i_lmul nx) : RUN d y (pc, ls, aL (lI b) :: aL (lI a) :: st) h = RUN d y (nx, ls, aL (lI (a * b)) :: st) h := by
  rw [← lI_mul]
  exact RUN_gi hcd rfl trivial
theorem k_i2l {a : Int} (hcd : am_cd y pc = i_i2l nx) (hR : R32 a) : RUN d y (pc, ls, aI (iI a) :: st) h = RUN d y (nx, ls, aL (lI a) :: st) h := by
  rw [← lI_i hR]
  exact RUN_gi hcd rfl trivial
theorem k_lcmp {a b : Int} (hcd : am_cd y pc = i_lcmp nx) : RUN d y (pc, ls, aL (lI b) :: aL (lI a) :: st) h = RUN d y (nx, ls, aI (iI (lcF a b)) :: st) h := by
  rw [show iI (lcF a b) = lg_cmp (lI a) (lI b) from iI_of _]
  exact RUN_gi hcd rfl trivial
theorem k_lret {x : Int} (hcd : am_cd y pc = i_lret) : RUN d y (pc, ls, [aL (lI x)]) h = rL x h := RUN_ei hcd rfl trivial
theorem k_lald {b n : Nat} {g : Nat → AV} {e : Int} (hcd : am_cd y pc = i_lald nx) (hS : am_S0 q.1.1 q.1.2 46 b = some (Sum.inl (2, n, g))) (hn : Nat.blt n 2147483648 = true) (he : 0 ≤ e ∧ e < (n : Int)) : RUN d y (pc, ls, aI (iI e) :: aR 46 b :: st) (HM q V) = RUN d y (nx, ls, aL (lI (jj q b e)) :: st) (HM q V) := by
  have hn' : n < 2147483648 := Nat.blt_eq.mp hn
  refine RUN_gi hcd (cs := [vp_in (iI e) n]) ?_ ⟨iI_in he hn', trivial⟩
  show (match am_S0 q.1.1 q.1.2 46 b with
    | some (Sum.inl (2, n, g)) => goC (vp_in (iI e) n) nx ls (aL (q.2.2.1 46 b (iI e).toNatClampNeg) :: st) (HM q V)
    | _ => stuck) = _
  rw [hS]
  try dsimp only
  unfold jj
  rw [lI_of, iI_nat (by omega)]
  try rfl
theorem k_last {b n : Nat} {g : Nat → AV} {e v : Int} (hcd : am_cd y pc = i_last nx) (hS : am_S0 q.1.1 q.1.2 46 b = some (Sum.inl (2, n, g))) (hn : Nat.blt n 2147483648 = true) (he : 0 ≤ e ∧ e < (n : Int)) : RUN d y (pc, ls, aL (lI v) :: aI (iI e) :: aR 46 b :: st) (HM q V) = RUN d y (nx, ls, st) (HM (stJ q b e v) V) := by
  have hn' : n < 2147483648 := Nat.blt_eq.mp hn
  refine RUN_gi hcd (cs := [vp_in (iI e) n]) ?_ ⟨iI_in he hn', trivial⟩
  show (match am_S0 q.1.1 q.1.2 46 b with
    | some (Sum.inl (2, n, g)) => goC (vp_in (iI e) n) nx ls st (am_S0 q.1.1 q.1.2, q.2.1, lft V, upJ q.2.2.1 46 b (iI e).toNatClampNeg (lI v), q.2.2.2)
    | _ => stuck) = _
  rw [hS]
  try dsimp only
  rw [iI_nat (by omega)]
  rfl
theorem k_newJ46 {N : Nat} (hcd : am_cd y pc = i_newaJ N nx) (hn : 136 ≤ q.2.1.1) : RUN d y (pc, ls, aI (nI N) :: st) (HM q V) = RUN d y (nx, ls, aR 46 q.2.1.1 :: st) (HM (newJ q N) V) := by
  refine RUN_gi (cs := [nI N = nI N]) hcd ?_ ⟨rfl, trivial⟩
  show goC (nI N = nI N) nx ls (Sum.inr (Sum.inl (am_al q.2.1.1)) :: st) (upS (am_S0 q.1.1 q.1.2) (am_al q.2.1.1).1 (am_al q.2.1.1).2 (some (Sum.inl (2, N, fun _ => aN))), (q.2.1.1 + 1, q.2.1.2 + N), lft V, upA q.2.2.1 (am_al q.2.1.1).1 (am_al q.2.1.1).2 (fun _ => 0), q.2.2.2) = _
  rw [am_al46 hn]
  dsimp only
  rw [upS_46]
  rfl
end
