/-! a row is kept on both sides; a letter was sent -/
section
variable {B : Int} {U V W : VV}
theorem hisR_push {r : Nat} (h : hisR B U V) (hr : r < 3) (ri : RI B r U) (sr : SRr r U (W 35 0)) (h5 : W 33 0 5 = V 33 0 5) (h37 : W 37 0 = V 37 0) : hisR B (keepV U r) (pushM W) := by
  obtain ⟨ho, a2, a3⟩ := h
  have h1 := ho.1
  have h2 := ho.2
  have p5 : 0 ≤ W 33 0 5 ∧ W 33 0 5 < 9 := by omega
  refine ⟨hisok_keep ho, by rw [keepV_2, pushM_5 p5, h5, a2], fun k k1 k2 => ?_⟩
  rw [keepV_2] at k2
  have hs : ∀ b : Nat, (∀ a, 2 ≤ a → a ≤ 10 → keepV U r a b = copyV U ((U 11 0 1).toNat + 3) r a b) := fun b a z1 z2 => by
    unfold keepV keepW
    rw [upV_off2 (by omega), upV_off2 (by omega)]
  have row : ∀ j, 0 ≤ j ∧ j < 154 → pushM W 37 0 (154 * k + j) = cif (k + 1 = min (U 11 0 2 + 1) 8) (W 35 0 j) (V 37 0 (154 * (k + (U 11 0 2 + 1 - min (U 11 0 2 + 1) 8)) + j)) := fun j hj => by
    rw [pushM_37 p5 k1 hj (by omega), h5, h37, a2]
  by_cases c : k + 1 = min (U 11 0 2 + 1) 8
  · have e : rowH (keepV U r) k = (U 11 0 1).toNat + 3 := by
      unfold rowH
      rw [keepV_1, keepV_2]
      have : ((U 11 0 1 + 1) % 8 - min (U 11 0 2 + 1) 8 + k) % 8 = U 11 0 1 := by omega
      rw [this]
    rw [e]
    have hne : (U 11 0 1).toNat + 3 ≠ r := by omega
    refine ⟨RI_off (hs _) (RI_copy hne ri), SR_off (hs _) (SR_cong (U := copyV U ((U 11 0 1).toNat + 3) r) (RI_8 (RI_copy hne ri)) (fun j hj => ?_) (SR_copy hne (RI_8 ri) sr))⟩
    show pushM W 37 0 (154 * k + j) = _
    rw [row j hj, cif_pos c]
  · have hk := a3 (k + (U 11 0 2 + 1 - min (U 11 0 2 + 1) 8)) (by omega) (by omega)
    have e : rowH (keepV U r) k = rowH U (k + (U 11 0 2 + 1 - min (U 11 0 2 + 1) 8)) := by
      unfold rowH
      rw [keepV_1, keepV_2]
      have : ((U 11 0 1 + 1) % 8 - min (U 11 0 2 + 1) 8 + k) % 8 = (U 11 0 1 - U 11 0 2 + (k + (U 11 0 2 + 1 - min (U 11 0 2 + 1) 8))) % 8 := by omega
      rw [this]
    have e2 : rowH U (k + (U 11 0 2 + 1 - min (U 11 0 2 + 1) 8)) ≠ (U 11 0 1).toNat + 3 := by
      unfold rowH
      have : ¬ (U 11 0 1 - U 11 0 2 + (k + (U 11 0 2 + 1 - min (U 11 0 2 + 1) 8))) % 8 = U 11 0 1 := by omega
      omega
    rw [e]
    have off : ∀ a, 2 ≤ a → a ≤ 10 → keepV U r a (rowH U (k + (U 11 0 2 + 1 - min (U 11 0 2 + 1) 8))) = U a (rowH U (k + (U 11 0 2 + 1 - min (U 11 0 2 + 1) 8))) := fun a z1 z2 => keepV_off (by omega) (Or.inr e2)
    refine ⟨RI_off off hk.1, SR_off off (SR_cong (RI_8 hk.1) (fun j hj => ?_) hk.2)⟩
    show pushM W 37 0 (154 * k + j) = _
    rw [row j hj, cif_neg c]
theorem passV_two {P : Nat → Int} {l : Int} (h : ∀ a, 2 ≤ a → a ≤ 10 → W a 0 = U a 0) : ∀ (k : Nat) (a : Nat), 2 ≤ a → a ≤ 10 → passV W P l k a 0 = passV U P l k a 0 := by
  intro k
  induction k with
  | zero => intro a h1 h2; exact h a h1 h2
  | succ k ih =>
    intro a h1 h2
    by_cases c : 7 ≤ a ∧ a ≤ 9
    · have i7 := ih 7 (by omega) (by omega)
      have i8 := ih 8 (by omega) (by omega)
      have i9 := ih 9 (by omega) (by omega)
      have hc : a = 7 ∨ a = 8 ∨ a = 9 := by omega
      rcases hc with rfl | rfl | rfl
      · show upV (passV W P l k) 7 0 (P k) (passV W P l k 7 0 (P k) + 1) 7 0 = upV (passV U P l k) 7 0 (P k) (passV U P l k 7 0 (P k) + 1) 7 0
        funext j
        rw [upV_at, upV_at, i7]
      · show logN (passV W P l k 8 0) (P (k + 1)) = logN (passV U P l k 8 0) (P (k + 1))
        rw [i8]
      · show logT (passV W P l k 9 0) (passV W P l k 8 0 (P (k + 1))) (P (k + 1)) l = logT (passV U P l k 9 0) (passV U P l k 8 0 (P (k + 1))) (P (k + 1)) l
        rw [i8, i9]
    · rw [passV_off (by omega), passV_off (by omega)]
      exact h a h1 h2
theorem sentV_two {P : Nat → Int} {l : Int} {k : Nat} (h : ∀ a, 2 ≤ a → a ≤ 10 → W a 0 = U a 0) : ∀ (a : Nat), 2 ≤ a → a ≤ 10 → sentV W P l k a 0 = sentV U P l k a 0 := by
  intro a h1 h2
  have e := passV_two (P := P) (l := l) h k
  unfold sentV
  by_cases c : a = 10
  · subst c
    funext j
    rw [upV_at, upV_at, e 10 (by decide) (by decide)]
  · rw [upV_off2 (by omega), upV_off2 (by omega), e a h1 h2]
theorem sentV_off {P : Nat → Int} {l : Int} {k : Nat} {a b : Nat} (h : ¬ (7 ≤ a ∧ a ≤ 10) ∨ b ≠ 0) : sentV U P l k a b = U a b := by
  unfold sentV
  rw [upV_off2 (by omega), passV_off (by omega)]
theorem zeroR_pass {P : Nat → Int} {l : Int} (hz : zeroR 0 U) : ∀ k : Nat, (∀ i : Nat, i ≤ k → 0 ≤ P i ∧ P i < U 2 0 8) → zeroR 0 (passV U P l k) := by
  intro k
  induction k with
  | zero => intro _; exact hz
  | succ k ih =>
    intro hP t h1 h2
    have := ih (fun i hi => hP i (by omega))
    have e2 : passV U P l k 2 0 = U 2 0 := passV_off (by omega) k
    have e2' : passV U P l (k + 1) 2 0 = U 2 0 := passV_off (by omega) (k + 1)
    rw [e2'] at h1
    have h0 := this t (by rw [e2]; exact h1) h2
    have p0 := hP k (by omega)
    have p1 := hP (k + 1) (by omega)
    constructor
    · show upV (passV U P l k) 7 0 (P k) _ 7 0 t = 0
      rw [upV_at, if_neg (by omega)]
      exact h0.1
    · show setF (passV U P l k 8 0) (P (k + 1)) _ t = 0
      unfold setF
      rw [if_neg (by omega)]
      exact h0.2
theorem RI_sent {P : Nat → Int} {l : Int} {k : Nat} (h : RI B 0 U) (hl : 97 ≤ l ∧ l < 113) (hk : k ≤ 7) (hP : ∀ i : Nat, i ≤ k → 0 ≤ P i ∧ P i < U 2 0 8) : RI (B + 10) 0 (sentV U P l k) := by
  obtain ⟨h1, h2, h3⟩ := h
  have hn := h1.1
  have r1 := rowB_pass h1 (l := l) (P := P) (by omega) k (fun i hi => by have := hP i hi; omega)
  have e2 : sentV U P l k 2 0 = U 2 0 := sentV_off (by omega)
  have e4 : sentV U P l k 4 0 = U 4 0 := sentV_off (by omega)
  refine ⟨?_, ?_, ?_⟩
  · have r2 := rowB_mono r1 (C := B + 10) (by omega)
    refine ⟨r2.1, r2.2.1, r2.2.2.1, r2.2.2.2.1, r2.2.2.2.2.1, r2.2.2.2.2.2.1, r2.2.2.2.2.2.2.1, r2.2.2.2.2.2.2.2.1, r2.2.2.2.2.2.2.2.2.1, fun j hj => ?_⟩
    show 0 ≤ (if j = l - 97 then _ else passV U P l k 10 0 j) ∧ (if j = l - 97 then _ else passV U P l k 10 0 j) ≤ B + 10
    have rj := r1.2.2.2.2.2.2.2.2.2 j hj
    have rl := r1.2.2.2.2.2.2.2.2.2 (l - 97) (by omega)
    by_cases c : j = l - 97
    · rw [if_pos c]; omega
    · rw [if_neg c]; omega
  · unfold distR
    rw [e2, e4]
    exact h2
  · exact zeroR_pass h3 k hP
end
