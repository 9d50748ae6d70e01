/-! what changes of a row, in both words -/
theorem SR_off {r : Nat} {U W : VV} {s : Int → Int} (h : ∀ a, 2 ≤ a → a ≤ 10 → W a r = U a r) (k : SRr r U s) : SRr r W s := by
  unfold SRr
  rw [h 2 (by decide) (by decide), h 3 (by decide) (by decide), h 4 (by decide) (by decide), h 5 (by decide) (by decide), h 6 (by decide) (by decide), h 7 (by decide) (by decide), h 8 (by decide) (by decide), h 9 (by decide) (by decide), h 10 (by decide) (by decide)]
  exact k
theorem RI_off {B : Int} {r : Nat} {U W : VV} (h : ∀ a, 2 ≤ a → a ≤ 10 → W a r = U a r) (k : RI B r U) : RI B r W := by
  refine ⟨rowB_off h k.1, ?_, ?_⟩
  · unfold distR
    rw [h 2 (by decide) (by decide), h 4 (by decide) (by decide)]
    exact k.2.1
  · unfold zeroR
    rw [h 2 (by decide) (by decide), h 7 (by decide) (by decide), h 8 (by decide) (by decide)]
    exact k.2.2
theorem RI_mono {B C : Int} {r : Nat} {U : VV} (h : RI B r U) (hB : B ≤ C) : RI C r U := ⟨rowB_mono h.1 hB, h.2⟩
theorem SR_cong {r : Nat} {U : VV} {s s' : Int → Int} (rb : ∀ t, 0 ≤ t ∧ t < 8 → 0 ≤ U 8 r t ∧ U 8 r t ≤ 8) (h : ∀ j, 0 ≤ j ∧ j < 154 → s' j = s j) (k : SRr r U s) : SRr r U s' := by
  refine ⟨⟨(h 0 (by decide)).trans k.1.1, (h 1 (by decide)).trans k.1.2⟩, fun j hj => (h _ (by omega)).trans (k.2.1 j hj), fun j hj => (h _ (by omega)).trans (k.2.2.1 j hj), fun t ht => ?_, fun t i ht hi => ?_⟩
  · obtain ⟨a, b, c, d, e⟩ := k.2.2.2.1 t ht
    exact ⟨(h _ (by omega)).trans a, (h _ (by omega)).trans b, (h _ (by omega)).trans c, (h _ (by omega)).trans d, (h _ (by omega)).trans e⟩
  · have := rb t ht
    exact (h _ (by omega)).trans (k.2.2.2.2 t i ht hi)
theorem SR_copy {r r0 : Nat} {U : VV} {s : Int → Int} (hr : r ≠ r0) (rb : ∀ t, 0 ≤ t ∧ t < 8 → 0 ≤ U 8 r0 t ∧ U 8 r0 t ≤ 8) (k : SRr r0 U s) : SRr r (copyV U r r0) s := by
  refine ⟨⟨?_, ?_⟩, fun j hj => ?_, fun j hj => ?_, fun t ht => ?_, fun t i ht hi => ?_⟩
  · rw [copyV_9f hr]; exact k.1.1
  · rw [copyV_8f]; exact k.1.2
  · rw [copyV_3 hj]; exact k.2.1 j hj
  · rw [copyV_10 hj]; exact k.2.2.1 j hj
  · rw [copyV_4 ht, copyV_5 ht, copyV_6 ht, copyV_7 ht, copyV_8 ht]; exact k.2.2.2.1 t ht
  · rw [copyV_8 ht] at hi ⊢
    have := rb t ht
    rw [copyV_9 (by omega)]
    exact k.2.2.2.2 t i ht hi
theorem RI_copy {B : Int} {r r0 : Nat} {U : VV} (hr : r ≠ r0) (k : RI B r0 U) : RI B r (copyV U r r0) := by
  have hn := k.1.1
  refine ⟨rowB_copy k.1 hr, fun a b ha hb hab => ?_, fun t h1 h2 => ?_⟩
  · rw [copyV_8f] at ha hb
    rw [copyV_4 (by omega), copyV_4 (by omega)]
    exact k.2.1 a b ha hb hab
  · rw [copyV_8f] at h1
    rw [copyV_7 (by omega), copyV_8 (by omega)]
    exact k.2.2 t h1 h2
theorem RI_8 {B : Int} {r : Nat} {U : VV} (k : RI B r U) : ∀ t, 0 ≤ t ∧ t < 8 → 0 ≤ U 8 r t ∧ U 8 r t ≤ 8 := k.1.2.2.2.2.2.2.2.1
theorem SR_ground {U : VV} {s : Int → Int} {p v : Int} (hp : 0 ≤ p ∧ p < 32) (rb : ∀ t, 0 ≤ t ∧ t < 8 → 0 ≤ U 8 0 t ∧ U 8 0 t ≤ 8) (h : SRr 0 U s) : SRr 0 (upV U 3 0 p v) (setF s (2 + p) v) := by
  refine ⟨⟨?_, ?_⟩, fun j hj => ?_, fun k hk => ?_, fun t ht => ⟨?_, ?_, ?_, ?_, ?_⟩, fun t i ht hi => ?_⟩
  · exact (setF_ne (by omega)).trans h.1.1
  · exact (setF_ne (by omega)).trans h.1.2
  · show (if 2 + j = 2 + p then v else s (2 + j)) = (if j = p then v else U 3 0 j)
    by_cases c : j = p
    · rw [if_pos c, if_pos (by omega)]
    · rw [if_neg c, if_neg (by omega)]; exact h.2.1 j hj
  · exact (setF_ne (by omega)).trans (h.2.2.1 k hk)
  · exact (setF_ne (by omega)).trans (h.2.2.2.1 t ht).1
  · exact (setF_ne (by omega)).trans (h.2.2.2.1 t ht).2.1
  · exact (setF_ne (by omega)).trans (h.2.2.2.1 t ht).2.2.1
  · exact (setF_ne (by omega)).trans (h.2.2.2.1 t ht).2.2.2.1
  · exact (setF_ne (by omega)).trans (h.2.2.2.1 t ht).2.2.2.2
  · exact (setF_ne (by have := rb t ht; have hi : 0 ≤ i ∧ i < U 8 0 t := hi; omega)).trans (h.2.2.2.2 t i ht hi)
theorem SR_wind {U : VV} {s : Int → Int} {v : Int} (rb : ∀ t, 0 ≤ t ∧ t < 8 → 0 ≤ U 8 0 t ∧ U 8 0 t ≤ 8) (h : SRr 0 U s) : SRr 0 (upV U 2 0 9 v) (setF s 0 v) := by
  refine ⟨⟨?_, ?_⟩, fun j hj => ?_, fun k hk => ?_, fun t ht => ⟨?_, ?_, ?_, ?_, ?_⟩, fun t i ht hi => ?_⟩
  · show (if (0 : Int) = 0 then v else s 0) = (if (9 : Int) = 9 then v else U 2 0 9)
    rfl
  · exact (setF_ne (by omega)).trans h.1.2
  · exact (setF_ne (by omega)).trans (h.2.1 j hj)
  · exact (setF_ne (by omega)).trans (h.2.2.1 k hk)
  · exact (setF_ne (by omega)).trans (h.2.2.2.1 t ht).1
  · exact (setF_ne (by omega)).trans (h.2.2.2.1 t ht).2.1
  · exact (setF_ne (by omega)).trans (h.2.2.2.1 t ht).2.2.1
  · exact (setF_ne (by omega)).trans (h.2.2.2.1 t ht).2.2.2.1
  · exact (setF_ne (by omega)).trans (h.2.2.2.1 t ht).2.2.2.2
  · exact (setF_ne (by have := rb t ht; have hi : 0 ≤ i ∧ i < U 8 0 t := hi; omega)).trans (h.2.2.2.2 t i ht hi)
theorem SR_mood {U : VV} {s : Int → Int} {p v : Int} (hp : 0 ≤ p ∧ p < 8) (rb : ∀ t, 0 ≤ t ∧ t < 8 → 0 ≤ U 8 0 t ∧ U 8 0 t ≤ 8) (h : SRr 0 U s) : SRr 0 (upV U 6 0 p v) (setF s (50 + 13 * p + 2) v) := by
  refine ⟨⟨?_, ?_⟩, fun j hj => ?_, fun k hk => ?_, fun t ht => ⟨?_, ?_, ?_, ?_, ?_⟩, fun t i ht hi => ?_⟩
  · exact (setF_ne (by omega)).trans h.1.1
  · exact (setF_ne (by omega)).trans h.1.2
  · exact (setF_ne (by omega)).trans (h.2.1 j hj)
  · exact (setF_ne (by omega)).trans (h.2.2.1 k hk)
  · exact (setF_ne (by omega)).trans (h.2.2.2.1 t ht).1
  · exact (setF_ne (by omega)).trans (h.2.2.2.1 t ht).2.1
  · show (if 50 + 13 * t + 2 = 50 + 13 * p + 2 then v else s (50 + 13 * t + 2)) = (if t = p then v else U 6 0 t)
    by_cases c : t = p
    · rw [if_pos c, if_pos (by omega)]
    · rw [if_neg c, if_neg (by omega)]; exact (h.2.2.2.1 t ht).2.2.1
  · exact (setF_ne (by omega)).trans (h.2.2.2.1 t ht).2.2.2.1
  · exact (setF_ne (by omega)).trans (h.2.2.2.1 t ht).2.2.2.2
  · exact (setF_ne (by have := rb t ht; have hi : 0 ≤ i ∧ i < U 8 0 t := hi; omega)).trans (h.2.2.2.2 t i ht hi)
theorem SR_count {U : VV} {s : Int → Int} {p v : Int} (hp : 0 ≤ p ∧ p < 8) (rb : ∀ t, 0 ≤ t ∧ t < 8 → 0 ≤ U 8 0 t ∧ U 8 0 t ≤ 8) (h : SRr 0 U s) : SRr 0 (upV U 7 0 p v) (setF s (50 + 13 * p + 3) v) := by
  refine ⟨⟨?_, ?_⟩, fun j hj => ?_, fun k hk => ?_, fun t ht => ⟨?_, ?_, ?_, ?_, ?_⟩, fun t i ht hi => ?_⟩
  · exact (setF_ne (by omega)).trans h.1.1
  · exact (setF_ne (by omega)).trans h.1.2
  · exact (setF_ne (by omega)).trans (h.2.1 j hj)
  · exact (setF_ne (by omega)).trans (h.2.2.1 k hk)
  · exact (setF_ne (by omega)).trans (h.2.2.2.1 t ht).1
  · exact (setF_ne (by omega)).trans (h.2.2.2.1 t ht).2.1
  · exact (setF_ne (by omega)).trans (h.2.2.2.1 t ht).2.2.1
  · show (if 50 + 13 * t + 3 = 50 + 13 * p + 3 then v else s (50 + 13 * t + 3)) = (if t = p then v else U 7 0 t)
    by_cases c : t = p
    · rw [if_pos c, if_pos (by omega)]
    · rw [if_neg c, if_neg (by omega)]; exact (h.2.2.2.1 t ht).2.2.2.1
  · exact (setF_ne (by omega)).trans (h.2.2.2.1 t ht).2.2.2.2
  · exact (setF_ne (by have := rb t ht; have hi : 0 ≤ i ∧ i < U 8 0 t := hi; omega)).trans (h.2.2.2.2 t i ht hi)
theorem SR_sent {U : VV} {s : Int → Int} {p v : Int} (hp : 0 ≤ p ∧ p < 16) (rb : ∀ t, 0 ≤ t ∧ t < 8 → 0 ≤ U 8 0 t ∧ U 8 0 t ≤ 8) (h : SRr 0 U s) : SRr 0 (upV U 10 0 p v) (setF s (34 + p) v) := by
  refine ⟨⟨?_, ?_⟩, fun j hj => ?_, fun k hk => ?_, fun t ht => ⟨?_, ?_, ?_, ?_, ?_⟩, fun t i ht hi => ?_⟩
  · exact (setF_ne (by omega)).trans h.1.1
  · exact (setF_ne (by omega)).trans h.1.2
  · exact (setF_ne (by omega)).trans (h.2.1 j hj)
  · show (if 34 + k = 34 + p then v else s (34 + k)) = (if k = p then v else U 10 0 k)
    by_cases c : k = p
    · rw [if_pos c, if_pos (by omega)]
    · rw [if_neg c, if_neg (by omega)]; exact h.2.2.1 k hk
  · exact (setF_ne (by omega)).trans (h.2.2.2.1 t ht).1
  · exact (setF_ne (by omega)).trans (h.2.2.2.1 t ht).2.1
  · exact (setF_ne (by omega)).trans (h.2.2.2.1 t ht).2.2.1
  · exact (setF_ne (by omega)).trans (h.2.2.2.1 t ht).2.2.2.1
  · exact (setF_ne (by omega)).trans (h.2.2.2.1 t ht).2.2.2.2
  · exact (setF_ne (by have := rb t ht; have hi : 0 ≤ i ∧ i < U 8 0 t := hi; omega)).trans (h.2.2.2.2 t i ht hi)
/-- the model's row with a letter logged -/
def logS (s : Int → Int) (u l : Int) : Int → Int := setF (setF (fun j => if 50 + 13 * u + 5 + 1 ≤ j ∧ j < 50 + 13 * u + 5 + 1 + 7 then s (j - 1) else s j) (50 + 13 * u + 5) l) (50 + 13 * u + 4) (min 8 (s (50 + 13 * u + 4) + 1))
theorem logS_ne {s : Int → Int} {u l j : Int} (h : ¬ (50 + 13 * u + 4 ≤ j ∧ j < 50 + 13 * u + 13)) : logS s u l j = s j := by
  unfold logS
  rw [setF_ne (by omega), setF_ne (by omega), if_neg (by omega)]
theorem SR_log {U : VV} {s : Int → Int} {u l : Int} (hu : 0 ≤ u ∧ u < 8) (rb : ∀ t, 0 ≤ t ∧ t < 8 → 0 ≤ U 8 0 t ∧ U 8 0 t ≤ 8) (h : SRr 0 U s) : SRr 0 (logV U u l) (logS s u l) := by
  have e8 : ∀ t, logV U u l 8 0 t = if t = u then min (U 8 0 u + 1) 8 else U 8 0 t := fun t => rfl
  have e9 : ∀ j, logV U u l 9 0 j = logT (U 9 0) (U 8 0 u) u l j := fun j => rfl
  have bu := rb u hu
  have h4 : s (50 + 13 * u + 4) = U 8 0 u := (h.2.2.2.1 u hu).2.2.2.2
  refine ⟨⟨?_, ?_⟩, fun j hj => ?_, fun k hk => ?_, fun t ht => ⟨?_, ?_, ?_, ?_, ?_⟩, fun t i ht hi => ?_⟩
  · exact (logS_ne (by omega)).trans h.1.1
  · exact (logS_ne (by omega)).trans h.1.2
  · exact (logS_ne (by omega)).trans (h.2.1 j hj)
  · exact (logS_ne (by omega)).trans (h.2.2.1 k hk)
  · exact (logS_ne (by omega)).trans (h.2.2.2.1 t ht).1
  · exact (logS_ne (by omega)).trans (h.2.2.2.1 t ht).2.1
  · exact (logS_ne (by omega)).trans (h.2.2.2.1 t ht).2.2.1
  · exact (logS_ne (by omega)).trans (h.2.2.2.1 t ht).2.2.2.1
  · rw [e8]
    by_cases c : t = u
    · subst c
      rw [if_pos rfl, ← h4]
      show (if 50 + 13 * t + 4 = 50 + 13 * t + 4 then min 8 (s (50 + 13 * t + 4) + 1) else _) = _
      rw [if_pos rfl]
      omega
    · rw [if_neg c]
      exact (logS_ne (by omega)).trans (h.2.2.2.1 t ht).2.2.2.2
  · have bt := rb t ht
    rw [e8] at hi ⊢
    rw [e9]
    unfold logT
    by_cases c : t = u
    · subst c
      rw [if_pos rfl] at hi ⊢
      have ho := h.2.2.2.2 t
      show logS s t l (50 + 13 * t + (5 + i)) = _
      unfold logS
      by_cases c0 : i = 0
      · subst c0
        rw [setF_ne (by omega), show 50 + 13 * t + (5 + 0) = 50 + 13 * t + 5 by omega, setF_same, if_neg (by omega), if_pos (by omega)]
      · rw [setF_ne (by omega), setF_ne (by omega), if_pos (by omega)]
        have := ho (i - 1) ht (by omega)
        have e : s (50 + 13 * t + (5 + i) - 1) = U 9 0 (8 * t + U 8 0 t - 1 - (i - 1)) := by
          rw [← this]
          show s _ = s (50 + 13 * t + (5 + (i - 1)))
          rw [show 50 + 13 * t + (5 + i) - 1 = 50 + 13 * t + (5 + (i - 1)) by omega]
        rw [e]
        by_cases c8 : U 8 0 t = 8
        · rw [if_pos (by omega), show 8 * t + min (U 8 0 t + 1) 8 - 1 - i + 1 = 8 * t + U 8 0 t - 1 - (i - 1) by omega]
        · rw [if_neg (by omega), if_neg (by omega), show 8 * t + min (U 8 0 t + 1) 8 - 1 - i = 8 * t + U 8 0 t - 1 - (i - 1) by omega]
    · rw [if_neg c] at hi ⊢
      show logS s u l (50 + 13 * t + (5 + i)) = _
      rw [logS_ne (by omega), if_neg (by omega), if_neg (by omega)]
      exact h.2.2.2.2 t i ht hi
/-- the model's row with a tower added -/
def addS (s : Int → Int) (n a b c : Int) : Int → Int := setF (setF (setF (setF (fun j => if 50 + 13 * n ≤ j ∧ j < 50 + 13 * n + 13 then 0 else s j) (50 + 13 * n + 0) a) (50 + 13 * n + 1) b) (50 + 13 * n + 2) c) 1 (n + 1)
theorem addS_ne {s : Int → Int} {n a b c j : Int} (h : ¬ (50 + 13 * n ≤ j ∧ j < 50 + 13 * n + 13)) (h1 : ¬ j = 1) : addS s n a b c j = s j := by
  unfold addS
  rw [setF_ne h1, setF_ne (by omega), setF_ne (by omega), setF_ne (by omega), if_neg h]
theorem addS_in {s : Int → Int} {n a b c j : Int} (hn : 0 ≤ n) (h : 50 + 13 * n + 3 ≤ j ∧ j < 50 + 13 * n + 13) : addS s n a b c j = 0 := by
  unfold addS
  rw [setF_ne (by omega), setF_ne (by omega), setF_ne (by omega), setF_ne (by omega), if_pos (by omega)]
/-- a tower added, in the class's words -/
def towU (U : VV) (a b c : Int) : VV := upV (upV (upV (upV U 4 0 (U 2 0 8) a) 5 0 (U 2 0 8) b) 6 0 (U 2 0 8) c) 2 0 8 (U 2 0 8 + 1)
theorem SR_add {U : VV} {s : Int → Int} {a b c : Int} (hn : 0 ≤ U 2 0 8 ∧ U 2 0 8 < 8) (rb : ∀ t, 0 ≤ t ∧ t < 8 → 0 ≤ U 8 0 t ∧ U 8 0 t ≤ 8) (hz : zeroR 0 U) (h : SRr 0 U s) : SRr 0 (towU U a b c) (addS s (U 2 0 8) a b c) := by
  have hz1 := hz (U 2 0 8) (Int.le_refl _) hn.2
  refine ⟨⟨?_, ?_⟩, fun j hj => ?_, fun k hk => ?_, fun t ht => ?_, fun t i ht hi => ?_⟩
  · exact (addS_ne (by omega) (by omega)).trans h.1.1
  · rfl
  · exact (addS_ne (by omega) (by omega)).trans (h.2.1 j hj)
  · exact (addS_ne (by omega) (by omega)).trans (h.2.2.1 k hk)
  · obtain ⟨a0, a1, a2, a3, a4⟩ := h.2.2.2.1 t ht
    by_cases e : t = U 2 0 8
    · have q4 : towU U a b c 4 0 t = if t = U 2 0 8 then a else U 4 0 t := rfl
      have q5 : towU U a b c 5 0 t = if t = U 2 0 8 then b else U 5 0 t := rfl
      have q6 : towU U a b c 6 0 t = if t = U 2 0 8 then c else U 6 0 t := rfl
      have q7 : towU U a b c 7 0 t = U 7 0 t := rfl
      have q8 : towU U a b c 8 0 t = U 8 0 t := rfl
      rw [q4, q5, q6, q7, q8, if_pos e, if_pos e, if_pos e, e, hz1.1, hz1.2]
      refine ⟨?_, ?_, ?_, ?_, ?_⟩
      · show addS s (U 2 0 8) a b c (50 + 13 * U 2 0 8 + 0) = a
        unfold addS
        rw [setF_ne (by omega), setF_ne (by omega), setF_ne (by omega), setF_same]
      · show addS s (U 2 0 8) a b c (50 + 13 * U 2 0 8 + 1) = b
        unfold addS
        rw [setF_ne (by omega), setF_ne (by omega), setF_same]
      · show addS s (U 2 0 8) a b c (50 + 13 * U 2 0 8 + 2) = c
        unfold addS
        rw [setF_ne (by omega), setF_same]
      · exact addS_in hn.1 (by omega)
      · exact addS_in hn.1 (by omega)
    · have q4 : towU U a b c 4 0 t = if t = U 2 0 8 then a else U 4 0 t := rfl
      have q5 : towU U a b c 5 0 t = if t = U 2 0 8 then b else U 5 0 t := rfl
      have q6 : towU U a b c 6 0 t = if t = U 2 0 8 then c else U 6 0 t := rfl
      have q7 : towU U a b c 7 0 t = U 7 0 t := rfl
      have q8 : towU U a b c 8 0 t = U 8 0 t := rfl
      rw [q4, q5, q6, q7, q8, if_neg e, if_neg e, if_neg e]
      exact ⟨(addS_ne (by omega) (by omega)).trans a0, (addS_ne (by omega) (by omega)).trans a1, (addS_ne (by omega) (by omega)).trans a2, (addS_ne (by omega) (by omega)).trans a3, (addS_ne (by omega) (by omega)).trans a4⟩
  · have hi : 0 ≤ i ∧ i < U 8 0 t := hi
    have bt := rb t ht
    by_cases e : t = U 2 0 8
    · rw [e, hz1.2] at hi
      omega
    · exact (addS_ne (by omega) (by omega)).trans (h.2.2.2.2 t i ht hi)
section
variable {B : Int} {U : VV}
theorem RI_ground {p v : Int} (k : RI B 0 U) (hv : 0 ≤ v ∧ v ≤ 9) : RI B 0 (upV U 3 0 p v) := by
  obtain ⟨h, hd, hz⟩ := k
  refine ⟨⟨h.1, h.2.1, fun j hj => ?_, h.2.2.2⟩, hd, hz⟩
  show 0 ≤ (if j = p then v else U 3 0 j) ∧ (if j = p then v else U 3 0 j) ≤ 9
  by_cases c : j = p
  · rw [if_pos c]; exact hv
  · rw [if_neg c]; exact h.2.2.1 j hj
theorem RI_wind {v : Int} (k : RI B 0 U) (hv : -9 ≤ v ∧ v ≤ 9) : RI B 0 (upV U 2 0 9 v) := by
  obtain ⟨h, hd, hz⟩ := k
  exact ⟨⟨h.1, hv, h.2.2⟩, hd, hz⟩
theorem RI_mood {p v : Int} (k : RI B 0 U) (hv : 0 ≤ v ∧ v < 4) : RI B 0 (upV U 6 0 p v) := by
  obtain ⟨h, hd, hz⟩ := k
  refine ⟨⟨h.1, h.2.1, h.2.2.1, h.2.2.2.1, h.2.2.2.2.1, fun j hj => ?_, h.2.2.2.2.2.2⟩, hd, hz⟩
  show 0 ≤ (if j = p then v else U 6 0 j) ∧ (if j = p then v else U 6 0 j) ≤ 3
  by_cases c : j = p
  · rw [if_pos c]; omega
  · rw [if_neg c]; exact h.2.2.2.2.2.1 j hj
theorem RI_add {a b c : Int} (k : RI B 0 U) (hn : U 2 0 8 < 8) (ha : 0 ≤ a ∧ a < 32) (hb : 1 ≤ b ∧ b ≤ 9) (hc : 0 ≤ c ∧ c < 4) (hno : fstI (posIs (U 4 0) a) (U 2 0 8) = -1) : RI B 0 (towU U a b c) := by
  obtain ⟨h, hd, hz⟩ := k
  have h1 := h.1
  have q4 : ∀ t, towU U a b c 4 0 t = if t = U 2 0 8 then a else U 4 0 t := fun t => rfl
  have q5 : ∀ t, towU U a b c 5 0 t = if t = U 2 0 8 then b else U 5 0 t := fun t => rfl
  have q6 : ∀ t, towU U a b c 6 0 t = if t = U 2 0 8 then c else U 6 0 t := fun t => rfl
  have q2 : towU U a b c 2 0 8 = U 2 0 8 + 1 := rfl
  have free : ∀ t, 0 ≤ t ∧ t < U 2 0 8 → ¬ U 4 0 t = a := fun t ht z => by
    rcases fstI_cases (posIs (U 4 0) a) (U 2 0 8) with ⟨z1, -⟩ | ⟨-, z2⟩
    · omega
    · exact z2 t ht.1 ht.2 z
  refine ⟨⟨by show 0 ≤ U 2 0 8 + 1 ∧ U 2 0 8 + 1 ≤ 8; omega, h.2.1, h.2.2.1, fun t ht => ?_, fun t ht => ?_, fun t ht => ?_, h.2.2.2.2.2.2⟩, fun x y hx hy hxy => ?_, fun t h1 h2 => hz t (by rw [q2] at h1; omega) h2⟩
  · rw [q4]
    by_cases e : t = U 2 0 8
    · rw [if_pos e]; omega
    · rw [if_neg e]; exact h.2.2.2.1 t ht
  · rw [q5]
    by_cases e : t = U 2 0 8
    · rw [if_pos e]; omega
    · rw [if_neg e]; exact h.2.2.2.2.1 t ht
  · rw [q6]
    by_cases e : t = U 2 0 8
    · rw [if_pos e]; omega
    · rw [if_neg e]; exact h.2.2.2.2.2.1 t ht
  · rw [q2] at hx hy
    rw [q4, q4]
    by_cases e1 : x = U 2 0 8
    · rw [if_pos e1, if_neg (by omega)]
      exact fun z => free y (by omega) z.symm
    · rw [if_neg e1]
      by_cases e2 : y = U 2 0 8
      · rw [if_pos e2]
        exact free x (by omega)
      · rw [if_neg e2]
        exact hd x y (by omega) (by omega) hxy
end
