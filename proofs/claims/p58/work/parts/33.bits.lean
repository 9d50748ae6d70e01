/-! bits -/
def bv (m : Int) : BitVec 32 := (iI m).toBitVec
/-- the bit k of m -/
def tbit (m k : Int) : Prop := (bv m).getLsbD k.toNat = true
theorem bv_of (x : Int32) : bv x.toInt = x.toBitVec := by
  unfold bv
  rw [iI_of]
theorem bv_or (a b : Int) : bv (bOr a b) = bv a ||| bv b := by
  unfold bOr
  rw [bv_of]
  rfl
theorem bv_and (a b : Int) : bv (bAnd a b) = bv a &&& bv b := by
  unfold bAnd
  rw [bv_of]
  rfl
theorem bv_xor (a b : Int) : bv (bXor a b) = bv a ^^^ bv b := by
  unfold bXor
  rw [bv_of]
  rfl
theorem bv_neg (a : Int) : bv (-a) = -bv a := by
  unfold bv
  rw [← iI_neg]
  rfl
theorem bv_inj {a b : Int} (ha : R32 a) (hb : R32 b) (h : bv a = bv b) : a = b := by
  have e : iI a = iI b := Int32.toBitVec_inj.mp h
  exact (iI_eq ha hb).mp e
theorem tbit_or {a b k : Int} : tbit (bOr a b) k ↔ tbit a k ∨ tbit b k := by
  unfold tbit
  rw [bv_or, BitVec.getLsbD_or, Bool.or_eq_true]
theorem tbit_and {a b k : Int} : tbit (bAnd a b) k ↔ tbit a k ∧ tbit b k := by
  unfold tbit
  rw [bv_and, BitVec.getLsbD_and, Bool.and_eq_true]
theorem tbit_not {a k : Int} (h : 0 ≤ k ∧ k < 32) : tbit (bXor a (-1)) k ↔ ¬ tbit a k := by
  unfold tbit
  rw [bv_xor, BitVec.getLsbD_xor, show bv (-1) = BitVec.allOnes 32 from by decide, BitVec.getLsbD_allOnes]
  have : decide (k.toNat < 32) = true := by rw [decide_eq_true_eq]; omega
  rw [this]
  cases (bv a).getLsbD k.toNat <;> simp
theorem tbit_0 (k : Int) : ¬ tbit 0 k := by
  unfold tbit
  rw [show bv 0 = 0#32 from by decide, BitVec.getLsbD_zero]
  exact fun h => by cases h
theorem tbit_ext {a b : Int} (ha : R32 a) (hb : R32 b) (h : ∀ k, 0 ≤ k ∧ k < 32 → (tbit a k ↔ tbit b k)) : a = b := by
  refine bv_inj ha hb (BitVec.eq_of_getLsbD_eq fun i hi => ?_)
  have h1 := h (i : Int) (by omega)
  unfold tbit at h1
  rw [show ((i : Int)).toNat = i from rfl] at h1
  cases e1 : (bv a).getLsbD i <;> cases e2 : (bv b).getLsbD i
  · rfl
  · exact absurd (h1.mpr e2) (by rw [e1]; exact fun z => by cases z)
  · exact absurd (h1.mp e1) (by rw [e2]; exact fun z => by cases z)
  · rfl
set_option maxRecDepth 100000 in
theorem tbit_shl {k j : Int} (hk : 0 ≤ k ∧ k < 32) (hj : 0 ≤ j ∧ j < 32) : tbit (bShl 1 k) j ↔ j = k := by
  have key : ∀ k : Nat, k < 32 → ∀ j : Nat, j < 32 → (iI 1 <<< (iI (k : Int) &&& 31)).toBitVec.getLsbD j = decide (j = k) := by decide +kernel
  obtain ⟨k', rfl⟩ : ∃ n : Nat, k = n := ⟨k.toNat, by omega⟩
  obtain ⟨j', rfl⟩ : ∃ n : Nat, j = n := ⟨j.toNat, by omega⟩
  unfold tbit bShl
  rw [bv_of]
  have := key k' (by omega) j' (by omega)
  rw [show ((j' : Int)).toNat = j' from rfl, this, decide_eq_true_eq]
  omega
set_option maxRecDepth 100000 in
theorem tbit_shr {a t j : Int} (ht : 0 ≤ t ∧ t < 32) (hj : 0 ≤ j ∧ t + j < 32) : tbit (bShr a t) j ↔ tbit a (t + j) := by
  have key : ∀ t : Nat, t < 32 → ((iI (t : Int) &&& 31).toBitVec.smod 32).toNat = t := by decide +kernel
  obtain ⟨t', rfl⟩ : ∃ n : Nat, t = n := ⟨t.toNat, by omega⟩
  obtain ⟨j', rfl⟩ : ∃ n : Nat, j = n := ⟨j.toNat, by omega⟩
  unfold tbit bShr
  rw [bv_of]
  have e : (iI a >>> (iI (t' : Int) &&& 31)).toBitVec = (bv a).sshiftRight t' := by
    show BitVec.sshiftRight' _ _ = _
    unfold BitVec.sshiftRight'
    rw [key t' (by omega)]
    rfl
  rw [e, BitVec.getLsbD_sshiftRight, show ((j' : Int)).toNat = j' from rfl, show ((t' : Int) + (j' : Int)).toNat = t' + j' from by omega, if_pos (by omega)]
  have : decide (32 ≤ j') = false := by rw [decide_eq_false_iff_not]; omega
  rw [this]
  simp
theorem bAnd_1 (a : Int) : bAnd a 1 = b2i (tbit a 0) := by
  have e : bv (bAnd a 1) = if (bv a).getLsbD 0 = true then 1#32 else 0#32 := by
    rw [bv_and, show bv 1 = 1#32 from by decide, BitVec.and_one_eq_setWidth_ofBool_getLsbD]
    cases (bv a).getLsbD 0 <;> rfl
  by_cases h : tbit a 0
  · rw [b2i_pos h]
    refine bv_inj (bAnd_R _ _) (by decide) ?_
    rw [e, if_pos (show (bv a).getLsbD 0 = true from h)]
    decide
  · rw [b2i_neg h]
    refine bv_inj (bAnd_R _ _) (by decide) ?_
    rw [e, if_neg (show ¬ (bv a).getLsbD 0 = true from h)]
    decide
theorem bitP_iff {a t : Int} (ht : 0 ≤ t ∧ t < 32) : bitP a t ↔ tbit a t := by
  unfold bitP
  rw [bAnd_1, b2i_o, tbit_shr ht (by omega), Int.add_zero]
theorem bit0_iff {a t : Int} (ht : 0 ≤ t ∧ t < 32) : bAnd (bShr a t) 1 = 0 ↔ ¬ tbit a t := by
  rw [bAnd_1, b2i_z, tbit_shr ht (by omega), Int.add_zero]
theorem nat_low : ∀ n : Nat, 0 < n → ∃ k m, n = 2 ^ (k + 1) * m + 2 ^ k := by
  intro n
  induction n using Nat.strongRecOn with
  | ind n ih =>
    intro h
    by_cases hp : n % 2 = 1
    · exact ⟨0, n / 2, by rw [Nat.pow_zero, Nat.zero_add, Nat.pow_one]; omega⟩
    · obtain ⟨k, m, e⟩ := ih (n / 2) (by omega) (by omega)
      refine ⟨k + 1, m, ?_⟩
      rw [Nat.pow_succ 2 (k + 1), Nat.pow_succ 2 k, Nat.mul_right_comm]
      rw [Nat.pow_succ 2 k] at e
      omega
theorem bv_low (x : BitVec 32) (h : x ≠ 0#32) : ∃ k, k < 32 ∧ x.getLsbD k = true ∧ ∀ i, i < 32 → (x &&& -x).getLsbD i = decide (i = k) := by
  have hx : 0 < x.toNat := by
    rcases Nat.eq_zero_or_pos x.toNat with e | e
    · exact absurd (BitVec.eq_of_toNat_eq (by rw [e]; rfl)) h
    · exact e
  have hlt : x.toNat < 2 ^ 32 := x.isLt
  obtain ⟨k, m, e⟩ := nat_low x.toNat hx
  have hpow : 2 ^ k < 2 ^ (k + 1) := Nat.pow_lt_pow_right (by decide) (by omega)
  have hpos : 0 < 2 ^ k := Nat.two_pow_pos k
  have hk : k < 32 := by
    rcases Nat.lt_or_ge k 32 with q | q
    · exact q
    · have : 2 ^ 32 ≤ 2 ^ k := Nat.pow_le_pow_right (by decide) q
      omega
  have hX : ∀ i, x.toNat.testBit i = if i < k + 1 then (2 ^ k).testBit i else m.testBit (i - (k + 1)) := fun i => by
    rw [e]
    exact Nat.testBit_two_pow_mul_add m hpow i
  have hY : ∀ i, (x.toNat - 1).testBit i = if i < k + 1 then (2 ^ k - 1).testBit i else m.testBit (i - (k + 1)) := fun i => by
    have e2 : x.toNat - 1 = 2 ^ (k + 1) * m + (2 ^ k - 1) := by omega
    rw [e2]
    exact Nat.testBit_two_pow_mul_add m (by omega) i
  have hN : ∀ i, i < 32 → (-x).getLsbD i = !(x.toNat - 1).testBit i := fun i hi => by
    show (-x).toNat.testBit i = _
    rw [BitVec.toNat_neg, show 2 ^ 32 - x.toNat = 2 ^ 32 - ((x.toNat - 1) + 1) by omega, Nat.mod_eq_of_lt (by omega), Nat.testBit_two_pow_sub_succ (by omega)]
    rw [show decide (i < 32) = true from decide_eq_true hi, Bool.true_and]
  refine ⟨k, hk, ?_, fun i hi => ?_⟩
  · show x.toNat.testBit k = true
    rw [hX, if_pos (by omega), Nat.testBit_two_pow]
    exact decide_eq_true rfl
  · rw [BitVec.getLsbD_and, hN i hi]
    show (x.toNat.testBit i && _) = _
    rw [hX, hY]
    by_cases c : i < k + 1
    · rw [if_pos c, if_pos c, Nat.testBit_two_pow, Nat.testBit_two_pow_sub_one]
      by_cases c2 : i = k
      · subst c2
        simp
      · have h1 : decide (k = i) = false := decide_eq_false (fun z => c2 z.symm)
        rw [h1, show decide (i = k) = false from decide_eq_false c2]
        rfl
    · rw [if_neg c, if_neg c, show decide (i = k) = false from decide_eq_false (by omega)]
      cases m.testBit (i - (k + 1)) <;> rfl
theorem low_bit {a : Int} (ha : R32 a) (h : ¬ a = 0) : ∃ k, 0 ≤ k ∧ k < 32 ∧ tbit a k ∧ ∀ j, 0 ≤ j ∧ j < 32 → (tbit (bAnd a (-a)) j ↔ j = k) := by
  obtain ⟨k, h1, h2, h3⟩ := bv_low (bv a) (fun e => h (bv_inj ha (by decide) (by rw [e]; decide)))
  refine ⟨(k : Int), by omega, by omega, h2, fun j hj => ?_⟩
  obtain ⟨j', rfl⟩ : ∃ n : Nat, j = n := ⟨j.toNat, by omega⟩
  unfold tbit
  rw [bv_and, bv_neg, show ((j' : Int)).toNat = j' from rfl, h3 j' (by omega), decide_eq_true_eq]
  omega
theorem and_low {a b : Int} {k : Int} (hk : 0 ≤ k ∧ k < 32) (h : ∀ j, 0 ≤ j ∧ j < 32 → (tbit b j ↔ j = k)) : bAnd a b = 0 ↔ ¬ tbit a k := by
  constructor
  · intro e hk2
    have : tbit (bAnd a b) k := tbit_and.mpr ⟨hk2, (h k hk).mpr rfl⟩
    rw [e] at this
    exact tbit_0 k this
  · intro hn
    refine tbit_ext (bAnd_R _ _) R32_0 fun j hj => ⟨fun h1 => ?_, fun h1 => absurd h1 (tbit_0 j)⟩
    obtain ⟨h2, h3⟩ := tbit_and.mp h1
    rw [(h j hj).mp h3] at h2
    exact absurd h2 hn
theorem tbit_maskI (P : Int → Prop) {n k : Int} (hn : 0 ≤ n ∧ n ≤ 32) (hk : 0 ≤ k ∧ k < 32) : tbit (maskI P n) k ↔ k < n ∧ P k := by
  obtain ⟨m, rfl⟩ : ∃ m : Nat, n = m := ⟨n.toNat, by omega⟩
  show tbit (maskN P m) k ↔ k < (m : Int) ∧ P k
  induction m with
  | zero => exact ⟨fun h => absurd h (tbit_0 k), fun h => by omega⟩
  | succ m ih =>
    have ih := ih (by omega)
    show tbit (cif (P m) (bOr (maskN P m) (bShl 1 m)) (maskN P m)) k ↔ k < ((m + 1 : Nat) : Int) ∧ P k
    by_cases hp : P m
    · rw [cif_pos hp, tbit_or, ih, tbit_shl (by omega) hk]
      constructor
      · rintro (⟨a, b⟩ | rfl)
        · exact ⟨by omega, b⟩
        · exact ⟨by omega, hp⟩
      · rintro ⟨a, b⟩
        by_cases e : k = m
        · exact Or.inr e
        · exact Or.inl ⟨by omega, b⟩
    · rw [cif_neg hp, ih]
      constructor
      · rintro ⟨a, b⟩
        exact ⟨by omega, b⟩
      · rintro ⟨a, b⟩
        refine ⟨?_, b⟩
        by_cases e : k = m
        · rw [e] at b; exact absurd b hp
        · omega
theorem tbit_orI (P : Int → Prop) (f : Int → Int) {n k : Int} (hn : 0 ≤ n) : tbit (orI P f n) k ↔ ∃ t, 0 ≤ t ∧ t < n ∧ P t ∧ tbit (f t) k := by
  obtain ⟨m, rfl⟩ : ∃ m : Nat, n = m := ⟨n.toNat, by omega⟩
  clear hn
  show tbit (orN P f m) k ↔ _
  induction m with
  | zero => exact ⟨fun h => absurd h (tbit_0 k), fun ⟨t, h1, h2, _⟩ => by omega⟩
  | succ m ih =>
    show tbit (cif (P m) (bOr (orN P f m) (f m)) (orN P f m)) k ↔ _
    by_cases hp : P m
    · rw [cif_pos hp, tbit_or, ih]
      constructor
      · rintro (⟨t, a, b, c, e⟩ | h)
        · exact ⟨t, a, by omega, c, e⟩
        · exact ⟨m, by omega, by omega, hp, h⟩
      · rintro ⟨t, a, b, c, e⟩
        by_cases h : t = m
        · rw [h] at e; exact Or.inr e
        · exact Or.inl ⟨t, a, by omega, c, e⟩
    · rw [cif_neg hp, ih]
      constructor
      · rintro ⟨t, a, b, c, e⟩
        exact ⟨t, a, by omega, c, e⟩
      · rintro ⟨t, a, b, c, e⟩
        by_cases h : t = m
        · rw [h] at c; exact absurd c hp
        · exact ⟨t, a, by omega, c, e⟩
