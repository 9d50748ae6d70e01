/-! feed, save, restore, undo on both sides -/
section
variable {d : Nat} {B : Int} {H K U V W X : VV} {x1 x2 : Int}
theorem CR_mk {C : Int} (h : CR B H H) (u0 : ∀ a b, 12 ≤ a → a < 33 → ¬ (a = 27 ∨ a = 28) → K a b = H a b) (u1 : ∀ j, ¬ j = 10 → K 1 0 j = H 1 0 j) (v0 : ∀ a b, 33 < a → ¬ (a = 34 ∨ a = 35 ∨ a = 36 ∨ a = 37 ∨ a = 42) → W a b = H a b) (v1 : ∀ j, ¬ (j = 3 ∨ j = 5 ∨ j = 6 ∨ j = 17) → W 33 0 j = H 33 0 j)
    (ri : RI C 0 K) (mr : MR W K) (hi : hisR C K W) (sa : savR C K W) (inn : inR K W) (hC : C ≤ B + 100) (e : eqU K W) : CR (B + 100) W W := by
  obtain ⟨h1, h2, h3, h4, h5, h6, h7, h8, h9, h10⟩ := h
  have key : CR C K W := ⟨ri, mr, relok_eq (fun a b z1 z2 => u0 a b (by omega) (by omega) (by omega)) h3, smok_eq (u0 23 0 (by omega) (by omega) (by omega)) h4, hi, sa, refR_U (refR_V h7 (v1 7 (by omega)) (v1 8 (by omega))) (u1 11 (by omega)) (u1 12 (by omega)), errR_U (errR_V h8 (v1 20 (by omega)) (v1 21 (by omega))) (u1 13 (by omega)) (u1 14 (by omega)), outR_U (outR_V h9 (v1 15 (by omega)) (v0 41 0 (by omega) (by omega))) (u0 31 0 (by omega) (by omega) (by omega)) (u0 32 0 (by omega) (by omega) (by omega)), inn⟩
  exact CR_mono (CR_eqU key e) hC
theorem op_168 (h : CR B H H) (p : 0 ≤ x1 ∧ x1 < 65536) : OP B (d + 12) 168 [aR 1 0, aI (iI x1)] (cmL [(1, 1)]) 292 [aR 33 0, aI (iI x1)] H := by
  obtain ⟨i1, i2, i3⟩ := h.2.2.2.2.2.2.2.2.2
  obtain ⟨j1, j2, j3, j4, j5⟩ := id i1
  have ec := fun q => e_168 (d := d + 11) (q := q) (V := H) (x1 := x1) (by omega) p
  by_cases c : H 27 0 4 < 60
  · have e17 : upV (upV H 27 0 4 (H 27 0 4 + 1)) 28 0 (H 27 0 4) x1 33 0 17 = H 33 0 17 := rfl
    refine OP_ok (fun q => (ec q).trans (cif_pos c)) (fun q => (e_292 (by rw [e17]; omega) p (fun _ => by rw [e17]; omega)).trans (cif_neg (by rw [e17]; omega))) (by rw [e17, i2]) rfl ?_
    rw [e17]
    refine CR_mk (C := B) (K := upV (upV H 27 0 4 (H 27 0 4 + 1)) 28 0 (H 27 0 4) x1) h (fun a b z1 z2 z3 => by rw [upV_off2 (by omega), upV_off2 (by omega)]) (fun j z => rfl) (fun a b z1 z2 => by rw [upV_off2 (by omega), upV_off2 (by omega), upV_off2 (by omega), upV_off2 (by omega), upV_off2 (by omega)]) (fun j z => ?_) h.1 h.2.1 (hisR_V (hisR_U h.2.2.2.2.1 rfl (fun a b z1 z2 z3 => by rw [upV_off2 (by omega), upV_off2 (by omega)])) rfl rfl) (savR_V (savR_U h.2.2.2.2.2.1 rfl (fun a z1 z2 => by rw [upV_off2 (by omega), upV_off2 (by omega)])) rfl rfl) ?_ (by omega) (fun a b z => by rw [upV_off2 (by omega), upV_off2 (by omega), upV_off2 (by omega)])
    · rw [upV_at, if_neg (by omega), upV_off2 (by omega), upV_at, if_neg (by omega), upV_off2 (by omega), upV_off2 (by omega)]
    · refine ⟨⟨by show 0 ≤ H 27 0 4 + 1 ∧ H 27 0 4 + 1 ≤ 60; omega, j2, j3, j4, fun j hj => ?_⟩, ?_, fun j hj => ?_⟩
      · show 0 ≤ (if j = H 27 0 4 then x1 else H 28 0 j) ∧ (if j = H 27 0 4 then x1 else H 28 0 j) ≤ 65535
        by_cases e : j = H 27 0 4
        · rw [if_pos e]; omega
        · rw [if_neg e]; exact j5 j hj
      · show H 27 0 4 + 1 = H 33 0 17 + 1
        omega
      · show (if j = H 27 0 4 then x1 else H 28 0 j) = (if j = H 33 0 17 then x1 else H 42 0 j)
        have hj : 0 ≤ j ∧ j < H 27 0 4 + 1 := hj
        by_cases e : j = H 27 0 4
        · rw [if_pos e, if_pos (by omega)]
        · rw [if_neg e, if_neg (by omega)]
          exact i3 j (by omega)
  · exact OP_ex (j := 1) (k := 1) (fun q => (ec q).trans (cif_neg c)) rfl rfl (by decide) (fun q => (e_292 (by omega) p (fun _ => by omega)).trans (cif_pos (by omega))) rfl (CR_6 h)
theorem cp_154 {V : VV} {a b : Nat} {s : Int} (hab : ¬ a = b) {j : Int} (hj : 0 ≤ j ∧ j < 154) : cpV V a 0 b 0 s 0 154 a 0 j = V b 0 (s + j) := by
  unfold cpV
  rw [Nat.beq_refl]
  show (if 0 ≤ j ∧ j < 0 + 154 then V b 0 (s + (j - 0)) else V a 0 j) = _
  rw [if_pos (by omega), show j - 0 = j by omega]
theorem op_53 (h : CR B H H) (hB : B ≤ 999990) : OP B (d + 12) 53 [aR 1 0] (cmL []) 305 [aR 33 0] H := by
  have rk := CR_rk h hB
  have mr := CR_mr h
  have co : ∀ a b, ¬ (2 ≤ a ∧ a ≤ 10 ∧ b = 2) → copyV H 2 0 a b = H a b := fun a b z => copyV_off (by omega)
  have mr2 : MR (upV (copyV H 2 0) 1 0 10 1) H := MR_off (by rw [upV_off2 (by omega)]; exact co 34 0 (by omega)) mr
  have e34 : ∀ a b, 33 ≤ a → upV (copyV H 2 0) 1 0 10 1 a b = H a b := fun a b z => by rw [upV_off2 (by omega)]; exact co a b (by omega)
  have kr : ∀ a, 2 ≤ a → a ≤ 10 → ∀ b, ¬ b = 2 → upV (copyV H 2 0) 1 0 10 1 a b = H a b := fun a z1 z2 b z3 => by rw [upV_off2 (by omega)]; exact co a b (by omega)
  refine OP_ok (fun q => e_53 rk) (fun q => e_305 rk mr2) rfl ?_ ?_
  · rw [upV_at, if_neg (by decide), cpV_off (by omega), upV_at, if_pos rfl]
  · refine CR_mk (C := B) (K := upV (copyV H 2 0) 1 0 10 1) h (fun a b z1 z2 z3 => by rw [upV_off2 (by omega)]; exact co a b (by omega)) (fun j z => by rw [upV_at, if_neg z]; rw [co 1 0 (by omega)]) (fun a b z1 z2 => by rw [upV_off2 (by omega), cpV_off (by omega), upV_off2 (by omega)]; exact e34 a b (by omega)) (fun j z => ?_) (RI_off (fun a z1 z2 => kr a z1 z2 0 (by decide)) h.1) ?_ ?_ ⟨?_, ?_, fun _ => ⟨?_, ?_⟩⟩ ?_ (by omega) (fun a b z => by rw [upV_off2 (by omega), cpV_off (by omega), upV_off2 (by omega)])
    · rw [upV_at, if_neg (by omega), cpV_off (by omega), upV_at, if_neg (by omega), e34 33 0 (by omega)]
    · refine MR_off (V := H) (by rw [upV_off2 (by omega), cpV_off (by omega), upV_off2 (by omega)]; exact e34 34 0 (by omega)) (SR_off (fun a z1 z2 => kr a z1 z2 0 (by decide)) mr)
    · refine hisR_U (hisR_V h.2.2.2.2.1 ?_ ?_) (by rw [upV_off2 (by omega)]; exact co 11 0 (by omega)) (fun a b z1 z2 z3 => kr a z1 z2 b (by omega))
      · rw [upV_at, if_neg (by decide), cpV_off (by omega), upV_at, if_neg (by decide), e34 33 0 (by omega)]
      · rw [upV_off2 (by omega), cpV_off (by omega), upV_off2 (by omega)]
        exact e34 37 0 (by omega)
    · rfl
    · exact Or.inr rfl
    · exact RI_off (fun a z1 z2 => by rw [upV_off2 (by omega)]) (RI_copy (by decide) h.1)
    · refine SR_off (fun a z1 z2 => by rw [upV_off2 (by omega)]) (SR_cong (U := copyV H 2 0) (RI_8 (RI_copy (by decide) h.1)) (fun j hj => ?_) (SR_copy (by decide) (RI_8 h.1) mr))
      rw [upV_off2 (by omega), cp_154 (by decide) hj, upV_off2 (by omega), e34 34 0 (by omega), Int.zero_add]
    · refine inR_U (inR_V h.2.2.2.2.2.2.2.2.2 ?_ ?_) (by rw [upV_off2 (by omega)]; exact co 27 0 (by omega)) (by rw [upV_off2 (by omega)]; exact co 28 0 (by omega))
      · rw [upV_at, if_neg (by decide), cpV_off (by omega), upV_at, if_neg (by decide), e34 33 0 (by omega)]
      · rw [upV_off2 (by omega), cpV_off (by omega), upV_off2 (by omega)]
        exact e34 42 0 (by omega)
theorem op_206 (h : CR B H H) (hB : B ≤ 999990) : OP B (d + 12) 206 [aR 1 0] (cmL [(1, 1)]) 306 [aR 33 0] H := by
  have rk := CR_rk h hB
  have mr := CR_mr h
  obtain ⟨s1, s2, s3⟩ := h.2.2.2.2.2.1
  have r10 : R32 (H 1 0 10) := by rcases s2 with z | z <;> rw [z] <;> decide
  by_cases c : H 1 0 10 = 0
  · exact OP_ex (j := 1) (k := 1) (fun q => (e_206 r10).trans (cif_pos c)) rfl rfl (by decide) (fun q => (e_306 rk mr (by rw [← s1]; exact r10)).trans (cif_pos (by rw [← s1]; exact c))) rfl (CR_6 h)
  · obtain ⟨ri2, sr2⟩ := s3 (by omega)
    have co : ∀ a b, ¬ (2 ≤ a ∧ a ≤ 10 ∧ b = 0) → copyV H 0 2 a b = H a b := fun a b z => copyV_off (by omega)
    have e34 : ∀ a b, 33 ≤ a → upV (copyV H 0 2) 11 0 2 0 a b = H a b := fun a b z => by rw [upV_off2 (by omega)]; exact co a b (by omega)
    have mr2 : MR (upV (copyV H 0 2) 11 0 2 0) H := MR_off (e34 34 0 (by omega)) mr
    have kr : ∀ a, 2 ≤ a → a ≤ 10 → ∀ b, ¬ b = 0 → upV (copyV H 0 2) 11 0 2 0 a b = H a b := fun a z1 z2 b z3 => by rw [upV_off2 (by omega)]; exact co a b (by omega)
    have ri0 : RI B 0 (upV (copyV H 0 2) 11 0 2 0) := RI_off (fun a z1 z2 => by rw [upV_off2 (by omega)]) (RI_copy (by decide) ri2)
    have e3 : upV (copyV H 0 2) 11 0 2 0 33 0 3 = H 33 0 3 := by rw [e34 33 0 (by omega)]
    have ho := CR_ho h
    refine OP_ok (fun q => (e_206 r10).trans (cif_neg c)) (fun q => (e_306 rk mr2 (by rw [e3, ← s1]; exact r10)).trans (cif_neg (by rw [e3, ← s1]; exact c))) ?_ ?_ ?_
    · rw [cp_154 (by decide) (by decide), upV_off2 (by omega), e34 36 0 (by omega), copyV_8f]
      exact sr2.1.2
    · rw [upV_at, if_neg (by decide), cpV_off (by omega), upV_at, if_pos rfl]
    · refine CR_mk (C := B) (K := upV (copyV H 0 2) 11 0 2 0) h (fun a b z1 z2 z3 => by rw [upV_off2 (by omega)]; exact co a b (by omega)) (fun j z => by rw [upV_off2 (by omega)]; rw [co 1 0 (by omega)]) (fun a b z1 z2 => by rw [upV_off2 (by omega), cpV_off (by omega), upV_off2 (by omega)]; exact e34 a b (by omega)) (fun j z => ?_) ri0 ?_ ⟨?_, ?_, fun k k1 k2 => ?_⟩ (savR_U (savR_V h.2.2.2.2.2.1 ?_ ?_) ?_ (fun a z1 z2 => kr a z1 z2 2 (by decide))) ?_ (by omega) (fun a b z => by rw [upV_off2 (by omega), cpV_off (by omega), upV_off2 (by omega)])
      · rw [upV_at, if_neg (by omega), cpV_off (by omega), upV_at, if_neg (by omega), e34 33 0 (by omega)]
      · refine SR_cong (RI_8 ri0) (fun j hj => ?_) (SR_off (fun a z1 z2 => by rw [upV_off2 (by omega)]) (SR_copy (by decide) (RI_8 ri2) sr2))
        rw [upV_off2 (by omega), cp_154 (by decide) hj, upV_off2 (by omega), e34 36 0 (by omega), Int.zero_add]
      · have h1 := ho.1
        unfold hisok
        rw [upV_at, if_neg (by decide), upV_at, if_pos rfl, co 11 0 (by omega)]
        exact ⟨h1, by decide⟩
      · rw [upV_at, if_pos rfl, upV_at, if_pos rfl]
      · rw [upV_at, if_pos rfl] at k2
        omega
      · rw [upV_at, if_neg (by decide), cpV_off (by omega), upV_at, if_neg (by decide), e34 33 0 (by omega)]
      · rw [upV_off2 (by omega), cpV_off (by omega), upV_off2 (by omega)]
        exact e34 36 0 (by omega)
      · rw [upV_off2 (by omega)]; rw [co 1 0 (by omega)]
      · refine inR_U (inR_V h.2.2.2.2.2.2.2.2.2 ?_ ?_) (by rw [upV_off2 (by omega)]; exact co 27 0 (by omega)) (by rw [upV_off2 (by omega)]; exact co 28 0 (by omega))
        · rw [upV_at, if_neg (by decide), cpV_off (by omega), upV_at, if_neg (by decide), e34 33 0 (by omega)]
        · rw [upV_off2 (by omega), cpV_off (by omega), upV_off2 (by omega)]
          exact e34 42 0 (by omega)
theorem op_203 (h : CR B H H) : OP B (d + 12) 203 [aR 1 0] (cmL [(1, 1)]) 303 [aR 33 0] H := by
  have mr := CR_mr h
  have ho := CR_ho h
  have h1 := ho.1
  have h2 := ho.2
  obtain ⟨-, a2, a3⟩ := h.2.2.2.2.1
  by_cases c : H 11 0 2 = 0
  · exact OP_ex (j := 1) (k := 1) (fun q => (e_203 ho).trans (cif_pos c)) rfl rfl (by decide) (fun q => (e_303 (by omega) (fun _ => by omega)).trans (cif_pos (by omega))) rfl (CR_6 h)
  · have hk : 0 ≤ lastK H ∧ lastK H < 8 := by unfold lastK; omega
    obtain ⟨rl, sl⟩ := a3 (H 11 0 2 - 1) (by omega) (by omega)
    have er : rowH H (H 11 0 2 - 1) = 3 + (lastK H).toNat := by
      unfold rowH lastK
      rw [show H 11 0 1 - H 11 0 2 + (H 11 0 2 - 1) = H 11 0 1 - 1 by omega]
      omega
    rw [er] at rl sl
    have bo : ∀ a b, ¬ (2 ≤ a ∧ a ≤ 10 ∧ b = 0) → ¬ a = 11 → backV H a b = H a b := fun a b z1 z2 => by
      unfold backV backW
      rw [upV_off2 (by omega), upV_off2 (by omega)]
      exact copyV_off (by omega)
    have b0 : ∀ a, 2 ≤ a → a ≤ 10 → backV H a 0 = copyV H 0 (3 + (lastK H).toNat) a 0 := fun a z1 z2 => by
      unfold backV backW
      rw [upV_off2 (by omega), upV_off2 (by omega)]
    have b1 : backV H 11 0 1 = lastK H := by
      unfold backV
      rw [upV_at, if_neg (by decide)]
      unfold backW
      rw [upV_at, if_pos rfl]
    have b2 : backV H 11 0 2 = H 11 0 2 - 1 := by
      unfold backV
      rw [upV_at, if_pos rfl]
      unfold backW
      rw [upV_at, if_neg (by decide), copyV_off (by omega)]
    have e34 : ∀ a b, 33 ≤ a → backV H a b = H a b := fun a b z => bo a b (by omega) (by omega)
    have ri0 : RI B 0 (backV H) := RI_off b0 (RI_copy (by omega) rl)
    have e5 : backV H 33 0 5 = H 33 0 5 := by rw [e34 33 0 (by omega)]
    refine OP_ok (fun q => (e_203 ho).trans (cif_neg c)) (fun q => (e_303 (by rw [e5]; omega) (fun _ => by rw [e5]; omega)).trans (cif_neg (by rw [e5]; omega))) (by rw [e5, b2]; omega) rfl ?_
    rw [e5]
    refine CR_mk (C := B) (K := backV H) h (fun a b z1 z2 z3 => bo a b (by omega) (by omega)) (fun j z => by rw [bo 1 0 (by omega) (by omega)]) (fun a b z1 z2 => by rw [cpV_off (by omega), upV_off2 (by omega), upV_off2 (by omega)]; exact e34 a b (by omega)) (fun j z => ?_) ri0 ?_ ⟨?_, ?_, fun k k1 k2 => ?_⟩ (savR_U (savR_V h.2.2.2.2.2.1 ?_ ?_) (by rw [bo 1 0 (by omega) (by omega)]) (fun a z1 z2 => bo a 2 (by omega) (by omega))) ?_ (by omega) (fun a b z => by rw [cpV_off (by omega), upV_off2 (by omega), upV_off2 (by omega)])
    · rw [cpV_off (by omega), upV_at, if_neg (by omega), upV_at, if_neg (by omega), e34 33 0 (by omega)]
    · refine SR_cong (RI_8 ri0) (fun j hj => ?_) (SR_off b0 (SR_copy (by omega) (RI_8 rl) sl))
      rw [cp_154 (by decide) hj, upV_off2 (by omega), upV_off2 (by omega), e34 37 0 (by omega), a2]
    · unfold hisok
      rw [b1, b2]
      omega
    · rw [b2, cpV_off (by omega), upV_at, if_pos rfl]
      omega
    · rw [b2] at k2
      obtain ⟨c1, c2⟩ := a3 k k1 (by omega)
      have ek : rowH (backV H) k = rowH H k := by
        unfold rowH
        rw [b1, b2]
        unfold lastK
        omega
      have hb := rowH_b ho (k := k)
      rw [ek]
      have off : ∀ a, 2 ≤ a → a ≤ 10 → backV H a (rowH H k) = H a (rowH H k) := fun a z1 z2 => bo a _ (by omega) (by omega)
      refine ⟨RI_off off c1, SR_off off ?_⟩
      rw [cpV_off (by omega), upV_off2 (by omega), upV_off2 (by omega), e34 37 0 (by omega)]
      exact c2
    · rw [cpV_off (by omega), upV_at, if_neg (by decide), upV_at, if_neg (by decide), e34 33 0 (by omega)]
    · rw [cpV_off (by omega), upV_off2 (by omega), upV_off2 (by omega)]
      exact e34 36 0 (by omega)
    · refine inR_U (inR_V h.2.2.2.2.2.2.2.2.2 ?_ ?_) (bo 27 0 (by omega) (by omega)) (bo 28 0 (by omega) (by omega))
      · rw [cpV_off (by omega), upV_at, if_neg (by decide), upV_at, if_neg (by decide), e34 33 0 (by omega)]
      · rw [cpV_off (by omega), upV_off2 (by omega), upV_off2 (by omega)]
        exact e34 42 0 (by omega)
end
