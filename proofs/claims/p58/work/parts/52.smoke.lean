/-! the smokes: the nearest letter -/
def patN (k : Nat) : Nat := [0, 15, 51, 60, 85, 90, 102, 105, 150, 153, 165, 170, 195, 204, 240, 255].getD k 0
def patT (v : Int) : Int := (patN v.toNat : Nat)
def dN (k v : Nat) : Nat := pc8 (patN v ^^^ k)
/-- of the first i letters the nearest -/
def nrS (k : Nat) : Nat → Nat
  | 0 => 0
  | i + 1 => if dN k i < dN k (nrS k i) then i else nrS k i
def nrV (x : Int) : Int := (nrS x.toNat 16 : Nat)
def nrD (x : Int) : Int := (dN x.toNat (nrS x.toNat 16) : Nat)
theorem patN_lt : ∀ k, k < 16 → patN k < 256 := by decide
theorem nr_all : ∀ k, k < 256 → nrS k 16 < 16 ∧ dN k (nrS k 16) ≤ 8 ∧ ∀ v, v < 16 → dN k (nrS k 16) ≤ dN k v ∧ (dN k v ≤ 1 → v = nrS k 16) := by decide +kernel
theorem nrV_b {x : Int} (h : 0 ≤ x ∧ x < 256) : 0 ≤ nrV x ∧ nrV x < 16 := by
  have := (nr_all x.toNat (by omega)).1
  unfold nrV
  omega
theorem nrD_b {x : Int} (h : 0 ≤ x ∧ x < 256) : 0 ≤ nrD x ∧ nrD x ≤ 8 := by
  have := (nr_all x.toNat (by omega)).2.1
  unfold nrD
  omega
theorem patT_b {x : Int} (h : 0 ≤ x ∧ x < 16) : 0 ≤ patT x ∧ patT x < 256 := by
  have := patN_lt x.toNat (by omega)
  unfold patT
  omega
theorem pc8_0 : pc8 0 = 0 := rfl
theorem popF_small {x : Int} (h : 0 ≤ x ∧ x < 256) : popF x = (pc8 x.toNat : Nat) := by
  rw [popF_cnt, cnt_bytes (b0 := x.toNat) (b1 := 0) (b2 := 0) (b3 := 0) (by omega) (by omega) (by omega) (by omega) (by rw [nN_eq]; omega)]
  rfl
theorem xor_lt {a b : Nat} (ha : a < 256) (hb : b < 256) : a ^^^ b < 256 := Nat.xor_lt_two_pow (n := 8) ha hb
theorem bXor_small {a b : Int} (ha : 0 ≤ a ∧ a < 256) (hb : 0 ≤ b ∧ b < 256) : bXor a b = ((a.toNat ^^^ b.toNat : Nat) : Int) := by
  have hl := xor_lt (a := a.toNat) (b := b.toNat) (by omega) (by omega)
  refine bv_inj (bXor_R _ _) (by constructor <;> omega) ?_
  rw [bv_xor]
  have e : ∀ z : Int, 0 ≤ z ∧ z < 256 → bv z = BitVec.ofNat 32 z.toNat := by
    intro z hz
    have := nN_eq z
    unfold nN at this
    apply BitVec.eq_of_toNat_eq
    rw [this, BitVec.toNat_ofNat]
    omega
  rw [e a ha, e b hb, e _ (by omega)]
  apply BitVec.eq_of_toNat_eq
  rw [BitVec.toNat_xor, BitVec.toNat_ofNat, BitVec.toNat_ofNat, BitVec.toNat_ofNat, Int.toNat_natCast]
  rw [Nat.mod_eq_of_lt (show a.toNat < 2 ^ 32 by omega), Nat.mod_eq_of_lt (show b.toNat < 2 ^ 32 by omega), Nat.mod_eq_of_lt (show a.toNat ^^^ b.toNat < 2 ^ 32 by omega)]
theorem popF_xor {x v : Int} (h : 0 ≤ x ∧ x < 256) (hv : 0 ≤ v ∧ v < 16) : popF (bXor (patT v) x) = (dN x.toNat v.toNat : Nat) := by
  have hp := patT_b hv
  have hl := xor_lt (a := (patT v).toNat) (b := x.toNat) (by omega) (by omega)
  rw [bXor_small hp h, popF_small (by omega), Int.toNat_natCast]
  unfold dN patT
  rw [Int.toNat_natCast]
/-- what is computed of the groups of odd numbers -/
def grW (x : Int) : Int := ((bAnd (popF (bAnd x 170)) 1) + (2 * (bAnd (popF (bAnd x 204)) 1))) + (4 * (bAnd (popF (bAnd x 240)) 1))
def grO (x : Int) : Int := bAnd (popF x) 1
def grL (z : Int) : Int := bOr (bOr (bOr (bAnd (bShr z 3) 1) (bShl (bAnd (bShr z 5) 1) 1)) (bShl (bAnd (bShr z 6) 1) 2)) (bShl (bAnd (bShr z 7) 1) 3)
theorem gr_all : ∀ k : Nat, k < 256 → R32 (grW k) ∧ (grO k = 1 → nrD k ≤ 1 ∧ grL (bXor k (bShl 1 (grW k))) = nrV k) ∧ (¬ grO k = 1 → (grW k = 0 → nrD k ≤ 1 ∧ grL k = nrV k) ∧ (¬ grW k = 0 → ¬ nrD k ≤ 1)) := by
  unfold R32
  decide +kernel
