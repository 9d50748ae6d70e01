/-! the count of bits as it is computed is the count of bits -/
def nN (z : Int) : Nat := (bv z).toNat
theorem nN_eq (z : Int) : nN z = (z % 4294967296).toNat := by
  show (BitVec.ofInt 32 z).toNat = _
  rw [BitVec.toNat_ofInt]
  rfl
theorem nN_lt (z : Int) : nN z < 4294967296 := (bv z).isLt
theorem nN_and (a b : Int) : nN (bAnd a b) = nN a &&& nN b := by
  unfold nN
  rw [bv_and, BitVec.toNat_and]
theorem nN_usr (a : Int) (k : Nat) (h : ((iI (k : Int)).toUInt32 &&& Int32.toUInt32 31).toBitVec % 32 = BitVec.ofNat 32 k) (hk : k < 32) : nN (bUsr a k) = nN a / 2 ^ k := by
  unfold nN bUsr
  rw [bv_of]
  show (((iI a).toUInt32.toBitVec) >>> (((iI (k : Int)).toUInt32 &&& Int32.toUInt32 31).toBitVec % 32)).toNat = _
  rw [h]
  show (BitVec.ushiftRight _ (BitVec.ofNat 32 k).toNat).toNat = _
  rw [BitVec.toNat_ofNat, Nat.mod_eq_of_lt (by omega)]
  show ((bv a) >>> k).toNat = _
  rw [BitVec.toNat_ushiftRight, Nat.shiftRight_eq_div_pow]
theorem land256 (a m : Nat) : a &&& m = ((a % 256) &&& (m % 256)) + 256 * ((a / 256) &&& (m / 256)) := by
  have h1 := Nat.and_mod_two_pow (a := a) (b := m) (n := 8)
  have h2 := Nat.and_div_two_pow (a := a) (b := m) (n := 8)
  rw [show (2 : Nat) ^ 8 = 256 from rfl] at h1 h2
  rw [← h1, ← h2, Nat.mod_add_div]
def pA (b : Nat) : Nat := b / 2 &&& 85
def pC (b : Nat) : Nat := b - pA b
def pE (b : Nat) : Nat := (pC b &&& 51) + (pC b / 4 &&& 51)
set_option maxRecDepth 100000 in
theorem pd1 : ∀ b, b < 256 → ∀ c, c < 2 → (b / 2 + 128 * c) &&& 85 = pA b := by decide +kernel
set_option maxRecDepth 100000 in
theorem pd2 : ∀ b, b < 256 → ∀ c, c < 4 → (b / 4 + 64 * c) &&& 51 = b / 4 &&& 51 := by decide +kernel
set_option maxRecDepth 100000 in
theorem pd3 : ∀ b, b < 256 → pA b ≤ b ∧ pC b < 256 ∧ pE b % 16 ≤ 4 ∧ pE b / 16 ≤ 4 ∧ pE b % 16 + pE b / 16 = b % 2 + b / 2 % 2 + b / 4 % 2 + b / 8 % 2 + b / 16 % 2 + b / 32 % 2 + b / 64 % 2 + b / 128 % 2 := by decide +kernel
theorem pand_lt (a : Nat) {m : Nat} : a &&& m ≤ m := Nat.and_le_right
theorem pst1 {b R m : Nat} (hb : b < 256) : (b + 256 * R) / 2 &&& (85 + 256 * m) = pA b + 256 * (R / 2 &&& m) := by
  rw [land256, show (b + 256 * R) / 2 % 256 = b / 2 + 128 * (R % 2) by omega, show (b + 256 * R) / 2 / 256 = R / 2 by omega, show (85 + 256 * m) % 256 = 85 by omega, show (85 + 256 * m) / 256 = m by omega, pd1 b hb (R % 2) (by omega)]
theorem pst2 {b R m : Nat} (hb : b < 256) : (b + 256 * R) / 4 &&& (51 + 256 * m) = (b / 4 &&& 51) + 256 * (R / 4 &&& m) := by
  rw [land256, show (b + 256 * R) / 4 % 256 = b / 4 + 64 * (R % 4) by omega, show (b + 256 * R) / 4 / 256 = R / 4 by omega, show (51 + 256 * m) % 256 = 51 by omega, show (51 + 256 * m) / 256 = m by omega, pd2 b hb (R % 4) (by omega)]
theorem pst3 {b R m k : Nat} (hb : b < 256) (hk : k < 256) : (b + 256 * R) &&& (k + 256 * m) = (b &&& k) + 256 * (R &&& m) := by
  rw [land256, show (b + 256 * R) % 256 = b by omega, show (b + 256 * R) / 256 = R by omega, show (k + 256 * m) % 256 = k by omega, show (k + 256 * m) / 256 = m by omega]
theorem pfin {p0 p1 p2 p3 : Nat} (q0 : p0 ≤ 8) (q1 : p1 ≤ 8) (q2 : p2 ≤ 8) (q3 : p3 ≤ 8) : (p0 + 256 * (p1 + 256 * (p2 + 256 * p3)) + (p0 + 256 * (p1 + 256 * (p2 + 256 * p3))) / 256 + (p0 + 256 * (p1 + 256 * (p2 + 256 * p3)) + (p0 + 256 * (p1 + 256 * (p2 + 256 * p3))) / 256) / 65536) % 64 = p0 + p1 + p2 + p3 := by
  have f1 : (p0 + 256 * (p1 + 256 * (p2 + 256 * p3))) / 256 = p1 + 256 * (p2 + 256 * p3) := by omega
  rw [f1]
  have f2 : (p0 + 256 * (p1 + 256 * (p2 + 256 * p3)) + (p1 + 256 * (p2 + 256 * p3))) / 65536 = p2 + p3 + 256 * p3 := by omega
  rw [f2]
  omega
theorem pnat {X b0 b1 b2 b3 : Nat} (h0 : b0 < 256) (h1 : b1 < 256) (h2 : b2 < 256) (h3 : b3 < 256) (hX : X = b0 + 256 * (b1 + 256 * (b2 + 256 * b3))) :
    ∃ X1 X2 X3 : Nat, X1 = X - (X / 2 &&& 1431655765) ∧ (X / 2 &&& 1431655765) ≤ X ∧ X2 = (X1 &&& 858993459) + (X1 / 4 &&& 858993459) ∧ X3 = (X2 + X2 / 16) &&& 252645135 ∧
      (X3 + X3 / 256 + (X3 + X3 / 256) / 65536) % 64 = (pE b0 % 16 + pE b0 / 16) + (pE b1 % 16 + pE b1 / 16) + (pE b2 % 16 + pE b2 / 16) + (pE b3 % 16 + pE b3 / 16) := by
  obtain ⟨a0, c0, n0, m0, -⟩ := pd3 b0 h0
  obtain ⟨a1, c1, n1, m1, -⟩ := pd3 b1 h1
  obtain ⟨a2, c2, n2, m2, -⟩ := pd3 b2 h2
  obtain ⟨a3, c3, n3, m3, -⟩ := pd3 b3 h3
  have e1 : X / 2 &&& 1431655765 = pA b0 + 256 * (pA b1 + 256 * (pA b2 + 256 * pA b3)) := by
    rw [hX, show (1431655765 : Nat) = 85 + 256 * (85 + 256 * (85 + 256 * 85)) from rfl, pst1 h0, pst1 h1, pst1 h2]
    rfl
  have e2 : X - (X / 2 &&& 1431655765) = pC b0 + 256 * (pC b1 + 256 * (pC b2 + 256 * pC b3)) := by
    rw [e1, hX]
    unfold pC
    omega
  have e3 : (X - (X / 2 &&& 1431655765)) &&& 858993459 = (pC b0 &&& 51) + 256 * ((pC b1 &&& 51) + 256 * ((pC b2 &&& 51) + 256 * (pC b3 &&& 51))) := by
    rw [e2, show (858993459 : Nat) = 51 + 256 * (51 + 256 * (51 + 256 * 51)) from rfl, pst3 c0 (by decide), pst3 c1 (by decide), pst3 c2 (by decide)]
  have e4 : (X - (X / 2 &&& 1431655765)) / 4 &&& 858993459 = (pC b0 / 4 &&& 51) + 256 * ((pC b1 / 4 &&& 51) + 256 * ((pC b2 / 4 &&& 51) + 256 * (pC b3 / 4 &&& 51))) := by
    rw [e2, show (858993459 : Nat) = 51 + 256 * (51 + 256 * (51 + 256 * 51)) from rfl, pst2 c0, pst2 c1, pst2 c2]
  have e5 : ((X - (X / 2 &&& 1431655765)) &&& 858993459) + ((X - (X / 2 &&& 1431655765)) / 4 &&& 858993459) = pE b0 + 256 * (pE b1 + 256 * (pE b2 + 256 * pE b3)) := by
    rw [e3, e4]
    unfold pE
    omega
  refine ⟨_, _, _, rfl, by rw [e1, hX]; omega, rfl, rfl, ?_⟩
  rw [e5]
  have e6 : pE b0 + 256 * (pE b1 + 256 * (pE b2 + 256 * pE b3)) + (pE b0 + 256 * (pE b1 + 256 * (pE b2 + 256 * pE b3))) / 16 = (pE b0 + pE b0 / 16 + 16 * (pE b1 % 16)) + 256 * ((pE b1 + pE b1 / 16 + 16 * (pE b2 % 16)) + 256 * ((pE b2 + pE b2 / 16 + 16 * (pE b3 % 16)) + 256 * (pE b3 + pE b3 / 16))) := by omega
  rw [e6, show (252645135 : Nat) = 15 + 256 * (15 + 256 * (15 + 256 * 15)) from rfl, pst3 (by omega) (by decide), pst3 (by omega) (by decide), pst3 (by omega) (by decide)]
  rw [show (15 : Nat) = 2 ^ 4 - 1 from rfl, Nat.and_two_pow_sub_one_eq_mod, Nat.and_two_pow_sub_one_eq_mod, Nat.and_two_pow_sub_one_eq_mod, Nat.and_two_pow_sub_one_eq_mod, show (2 : Nat) ^ 4 = 16 from rfl]
  rw [show (pE b0 + pE b0 / 16 + 16 * (pE b1 % 16)) % 16 = pE b0 % 16 + pE b0 / 16 by omega, show (pE b1 + pE b1 / 16 + 16 * (pE b2 % 16)) % 16 = pE b1 % 16 + pE b1 / 16 by omega, show (pE b2 + pE b2 / 16 + 16 * (pE b3 % 16)) % 16 = pE b2 % 16 + pE b2 / 16 by omega, show (pE b3 + pE b3 / 16) % 16 = pE b3 % 16 + pE b3 / 16 by omega]
  have q0 : pE b0 % 16 + pE b0 / 16 ≤ 8 := by omega
  have q1 : pE b1 % 16 + pE b1 / 16 ≤ 8 := by omega
  have q2 : pE b2 % 16 + pE b2 / 16 ≤ 8 := by omega
  have q3 : pE b3 % 16 + pE b3 / 16 ≤ 8 := by omega
  exact pfin q0 q1 q2 q3
theorem nN_sub {a b : Int} (h : nN b ≤ nN a) : nN (a - b) = nN a - nN b := by
  rw [nN_eq, nN_eq] at h
  rw [nN_eq, nN_eq, nN_eq]
  omega
theorem nN_add {a b : Int} (h : nN a + nN b < 4294967296) : nN (a + b) = nN a + nN b := by
  rw [nN_eq, nN_eq] at h
  rw [nN_eq, nN_eq, nN_eq]
  omega
theorem tbit_nN {x : Int} {k : Nat} : b2i (tbit x k) = ((nN x / 2 ^ k % 2 : Nat) : Int) := by
  have e : (bv x).getLsbD k = decide (nN x / 2 ^ k % 2 = 1) := by
    show (bv x).toNat.testBit k = _
    rw [Nat.testBit_eq_decide_div_mod_eq]
    rfl
  by_cases h : nN x / 2 ^ k % 2 = 1
  · rw [b2i_pos (show tbit x k from by unfold tbit; rw [show ((k : Int)).toNat = k from rfl, e]; exact decide_eq_true h), h]
    rfl
  · rw [b2i_neg (fun z => h (by unfold tbit at z; rw [show ((k : Int)).toNat = k from rfl, e] at z; exact of_decide_eq_true z))]
    have : nN x / 2 ^ k % 2 = 0 := by omega
    rw [this]
    rfl
theorem popF_nN (x : Int) : ∃ b0 b1 b2 b3 : Nat, b0 < 256 ∧ b1 < 256 ∧ b2 < 256 ∧ b3 < 256 ∧ nN x = b0 + 256 * (b1 + 256 * (b2 + 256 * b3)) ∧ nN (popF x) = (pE b0 % 16 + pE b0 / 16) + (pE b1 % 16 + pE b1 / 16) + (pE b2 % 16 + pE b2 / 16) + (pE b3 % 16 + pE b3 / 16) := by
  have hX := nN_lt x
  refine ⟨nN x % 256, nN x / 256 % 256, nN x / 65536 % 256, nN x / 16777216, by omega, by omega, by omega, by omega, by omega, ?_⟩
  obtain ⟨X1, X2, X3, g1, g2, g3, g4, g5⟩ := pnat (X := nN x) (b0 := nN x % 256) (b1 := nN x / 256 % 256) (b2 := nN x / 65536 % 256) (b3 := nN x / 16777216) (by omega) (by omega) (by omega) (by omega) (by omega)
  have u1 := fun a => nN_usr a 1 (by decide) (by decide)
  have u2 := fun a => nN_usr a 2 (by decide) (by decide)
  have u4 := fun a => nN_usr a 4 (by decide) (by decide)
  have u8 := fun a => nN_usr a 8 (by decide) (by decide)
  have u16 := fun a => nN_usr a 16 (by decide) (by decide)
  have hA : nN (bAnd (bUsr x 1) 1431655765) = nN x / 2 &&& 1431655765 := by
    rw [nN_and, show (1 : Int) = ((1 : Nat) : Int) from rfl, u1]
    rfl
  have h1 : nN (x - bAnd (bUsr x 1) 1431655765) = X1 := by rw [nN_sub (by rw [hA]; exact g2), hA, g1]
  generalize hx1 : x - bAnd (bUsr x 1) 1431655765 = x1 at h1
  have hB : nN (bAnd x1 858993459) = X1 &&& 858993459 := by rw [nN_and, h1]; rfl
  have hC : nN (bAnd (bUsr x1 2) 858993459) = X1 / 4 &&& 858993459 := by
    rw [nN_and, show (2 : Int) = ((2 : Nat) : Int) from rfl, u2, h1]
    rfl
  have b1 := pand_lt X1 (m := 858993459)
  have b2 := pand_lt (X1 / 4) (m := 858993459)
  have h2 : nN (bAnd x1 858993459 + bAnd (bUsr x1 2) 858993459) = X2 := by rw [nN_add (by rw [hB, hC]; omega), hB, hC, g3]
  generalize hx2 : bAnd x1 858993459 + bAnd (bUsr x1 2) 858993459 = x2 at h2
  have hD : nN (bUsr x2 4) = X2 / 16 := by
    rw [show (4 : Int) = ((4 : Nat) : Int) from rfl, u4, h2]
  have h3 : nN (bAnd (x2 + bUsr x2 4) 252645135) = X3 := by
    rw [nN_and, nN_add (by rw [hD, h2]; omega), hD, h2, g4]
    rfl
  generalize hx3 : bAnd (x2 + bUsr x2 4) 252645135 = x3 at h3
  have b3 : X3 ≤ 252645135 := by rw [g4]; exact pand_lt _
  have hE : nN (bUsr x3 8) = X3 / 256 := by
    rw [show (8 : Int) = ((8 : Nat) : Int) from rfl, u8, h3]
  have h4 : nN (x3 + bUsr x3 8) = X3 + X3 / 256 := by rw [nN_add (by rw [hE, h3]; omega), hE, h3]
  generalize hx4 : x3 + bUsr x3 8 = x4 at h4
  have hF : nN (bUsr x4 16) = (X3 + X3 / 256) / 65536 := by
    rw [show (16 : Int) = ((16 : Nat) : Int) from rfl, u16, h4]
  have h5 : nN (x4 + bUsr x4 16) = X3 + X3 / 256 + (X3 + X3 / 256) / 65536 := by rw [nN_add (by rw [hF, h4]; omega), hF, h4]
  unfold popF
  rw [hx1, hx2, hx3, hx4, nN_and, h5, ← g5, show nN 63 = 2 ^ 6 - 1 from rfl, Nat.and_two_pow_sub_one_eq_mod]
def pc8 (b : Nat) : Nat := b / 1 % 2 + b / 2 % 2 + b / 4 % 2 + b / 8 % 2 + b / 16 % 2 + b / 32 % 2 + b / 64 % 2 + b / 128 % 2
theorem pb_0 (b R : Nat) : (b + 256 * R) / 1 % 2 = b / 1 % 2 := by omega
theorem pb_1 (b R : Nat) : (b + 256 * R) / 2 % 2 = b / 2 % 2 := by omega
theorem pb_2 (b R : Nat) : (b + 256 * R) / 4 % 2 = b / 4 % 2 := by omega
theorem pb_3 (b R : Nat) : (b + 256 * R) / 8 % 2 = b / 8 % 2 := by omega
theorem pb_4 (b R : Nat) : (b + 256 * R) / 16 % 2 = b / 16 % 2 := by omega
theorem pb_5 (b R : Nat) : (b + 256 * R) / 32 % 2 = b / 32 % 2 := by omega
theorem pb_6 (b R : Nat) : (b + 256 * R) / 64 % 2 = b / 64 % 2 := by omega
theorem pb_7 (b R : Nat) : (b + 256 * R) / 128 % 2 = b / 128 % 2 := by omega
theorem pc8_low (b R : Nat) : pc8 (b + 256 * R) = pc8 b := by
  unfold pc8
  rw [pb_0, pb_1, pb_2, pb_3, pb_4, pb_5, pb_6, pb_7]
theorem cnt_pc8 (x : Int) : cntI (tbit x) 32 = ((pc8 (nN x) + pc8 (nN x / 256) + pc8 (nN x / 65536) + pc8 (nN x / 16777216) : Nat) : Int) := by
  show cntN (tbit x) 32 = _
  unfold pc8
  simp only [cntN, tbit_nN, Nat.reducePow, Nat.div_div_eq_div_mul, Nat.reduceMul, Int.natCast_add, Int.zero_add, Int.add_assoc]
theorem cnt_bytes {x : Int} {b0 b1 b2 b3 : Nat} (h0 : b0 < 256) (h1 : b1 < 256) (h2 : b2 < 256) (h3 : b3 < 256) (hX : nN x = b0 + 256 * (b1 + 256 * (b2 + 256 * b3))) : cntI (tbit x) 32 = ((pc8 b0 + pc8 b1 + pc8 b2 + pc8 b3 : Nat) : Int) := by
  rw [cnt_pc8, show nN x / 256 = b1 + 256 * (b2 + 256 * b3) by omega, show nN x / 65536 = b2 + 256 * b3 by omega, show nN x / 16777216 = b3 by omega, hX, pc8_low, pc8_low, pc8_low]
theorem popF_cnt (x : Int) : popF x = cntI (tbit x) 32 := by
  obtain ⟨b0, b1, b2, b3, h0, h1, h2, h3, hX, hp⟩ := popF_nN x
  have hR := popF_R x
  have e1 : popF x = ((nN (popF x) : Nat) : Int) := by
    have w0 := (pd3 b0 h0).2.2
    have w1 := (pd3 b1 h1).2.2
    have w2 := (pd3 b2 h2).2.2
    have w3 := (pd3 b3 h3).2.2
    have h5 : nN (popF x) ≤ 32 := by
      rw [hp]
      exact Nat.add_le_add (Nat.add_le_add (Nat.add_le_add (Nat.add_le_add w0.1 w0.2.1) (Nat.add_le_add w1.1 w1.2.1)) (Nat.add_le_add w2.1 w2.2.1)) (Nat.add_le_add w3.1 w3.2.1)
    clear w0 w1 w2 w3 hX hp
    have := nN_eq (popF x)
    omega
  rw [cnt_bytes h0 h1 h2 h3 hX, e1, hp, (pd3 b0 h0).2.2.2.2, (pd3 b1 h1).2.2.2.2, (pd3 b2 h2).2.2.2.2, (pd3 b3 h3).2.2.2.2]
  unfold pc8
  rw [Nat.div_one, Nat.div_one, Nat.div_one, Nat.div_one]
