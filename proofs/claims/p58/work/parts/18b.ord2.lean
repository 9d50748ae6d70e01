/-! Kind.ordinal in the small machine -/
def i_ord (nx : Nat) : Ins := fun fr h => match fr.2.2 with
  | Sum.inr (Sum.inl (0, b)) :: st => (match hS h 0 b with
    | some (Sum.inr (c', fs)) => (match fs.getD 0 aN with
      | Sum.inl v => goC (c' = 90 ∧ Nat.ble st.length 4 = true) nx fr.2.1 (aI v :: st) h
      | _ => stuck)
    | _ => stuck)
  | _ => stuck
theorem s_ord {y pc nx index : Nat} (hd : decode (am_mi y).2.1 pc = .ok (.invokevirtual index, 3)) (hl : Cond.methodLink (am_mi y).1.cls index am_ordX ∈ lw_tbl) (hm : Cond.sameMethod "SmokeRelay$Kind" "java/lang/Enum" "ordinal" "()I" ∈ lw_tbl) (hse : Cond.selects "SmokeRelay$Kind" am_ordX am_ordY ∈ lw_tbl) (hi : Cond.instanceMethod am_ordY ∈ lw_tbl) (hco : Cond.code am_ordY prog_22_method_2_code 1 (some .int) ∈ lw_tbl) (hfl : Cond.fieldLink "java/lang/Enum" 7 "java/lang/Enum" "ordinal" "I" ∈ lw_tbl) (hn : pc + 3 = nx) : Snd y pc (i_ord nx) := by
  subst hn
  intro x C fr h hpc ha
  obtain ⟨pc', ls, st⟩ := fr
  obtain rfl : pc' = pc := hpc
  unfold i_ord at ha ⊢
  dsimp only at ha ⊢
  split at ha
  · rename_i b st'
    split at ha
    · rename_i c' fs hSe
      split at ha
      · rename_i v hv
        obtain ⟨rfl, hble⟩ := ha.1
        refine ⟨⟨Nat.le_refl _, Nat.le_refl _⟩, fun m1 m2 K H locs cells slots lsC hp => ?_⟩
        have K2 := K H locs cells slots lsC hp
        have hcat := am_cats (xK x) C.fmt st' hble
        have hroom := am_room C hp (Nat.le_refl _) (Nat.le_refl _) m1 m2
        have w1 := C.wa hl rfl
        have w2 := C.wa hm rfl
        have w3 := C.wa hse rfl
        have w4 := C.wa hi rfl
        have w5 := C.wa hco rfl
        have w6 := C.wa hfl rfl
        obtain ⟨k, o, hE, ⟨d, n0, sl0⟩, p, l, e, R, s, m, args, below, meth, c⟩ := x
        obtain ⟨cellB, r1, r2, r3, r4⟩ := am_recv C.2.2.1 hp.1 hSe
        have h1 := C.2.2.1.2.2.1 b
        rw [← hp.1.2.2.1 b, hSe] at h1
        obtain ⟨cf, kk, i, f, cell, e1, e2, e3, e4, e5, e6⟩ := h1.2.2 0 (Nat.zero_lt_succ 1)
        have hlt : k.2.1 b < (kH k).size := (Array.getElem?_eq_some_iff.mp e3).1
        rw [hv] at e5
        have hR1 : d + 16 ≤ R.frames := C.2.2.2.2.1.1
        have hR2 : 45 * d + 400 ≤ R.locals := C.2.2.2.2.1.2.1
        have g1 : cells + (hN h - hN h) ≤ R.cells := hroom.1
        have g2 : slots + (hL h - hL h) ≤ R.slots := hroom.2
        refine am_ordW C.1.1 C.1.2.1 C.1.2.2.1 C.1.2.2.2.1 w1 w2 w3 w4 w5 w6 (by decide +kernel) (by decide +kernel) (by decide +kernel) ⟨cellB, r1, r2, r4 rfl⟩ ⟨cf, kk, i, f, cell, e1, e2, (hp.1.2.1 _ hlt).trans e3, e4, e5⟩ hp.2.2.2.2.1.1 hcat ?_ ?_ hd ?_ ?_ K2
        · omega
        · omega
        · omega
        · omega
      · exact absurd ha.1 id
    · exact absurd ha.1 id
  · exact absurd ha.1 id
def am_okB (v : Int32) : Prop := v = 0 ∨ v = 1
theorem am_okB_n (v : Int32) (h : am_okB v) : narrow .byte (.int v) = .int v := by
  rcases h with rfl | rfl <;> rfl
theorem am_okB_f (v : Int32) (h : am_okB v) : narrow .byte (.int v) = .int v ∧ fits .byte (.int v) = true := by
  rcases h with rfl | rfl <;> exact ⟨rfl, rfl⟩
