/-! what holds at the start: statics, the model's strings; all of it -/
theorem sa_fmt {s : State} {args : Array Value} (hgv : sa_N.before args s = true) : ∃ v : Value, (Term.static "jdk/internal/util/Preconditions" "SIOOBE_FORMATTER" "Ljava/util/function/BiFunction;").eval args s none [] s = some v ∧ (v = .null ∨ ∃ a, v = .ref a) := by
  have hs := flat_of_before _ hgv
  obtain ⟨v, h1, h2⟩ := Cond.isRef_spec (hs (Cond.isRef (.static "jdk/internal/util/Preconditions" "SIOOBE_FORMATTER" "Ljava/util/function/BiFunction;")) (by decide +kernel))
  refine ⟨v, h1, ?_⟩
  cases v <;> first | exact Or.inl rfl | exact Or.inr ⟨_, rfl⟩ | (simp [Value.isRef] at h2; done)
theorem sz_4in : ∀ j, j < 6 → Cond.laysStatic (am_st j).1 (am_st j).2.1 (am_st j).2.2.1 ∈ lw_tbl ∧ Cond.initialized (am_st j).1 ∈ lw_tbl := by decide +kernel
theorem sz_4 {k : C0} {s : State} {args : Array Value} (hts : ∀ w ∈ lw_tbl, w.before args s = true) (hgv : sa_N.before args s = true) (ht : ∀ b, b < 44 → (sa_tm b).eval args s none [] s = some (.ref (k.2.1 b))) (hk : kH k = s.heap) (hf : (Term.static "jdk/internal/util/Preconditions" "SIOOBE_FORMATTER" "Ljava/util/function/BiFunction;").eval args s none [] s = some k.2.2.2.2.2.2) : ∀ j, j < 6 → va_Z (am_st j).1 (am_st j).2.1 (am_st j).2.2.1 (am_cv k (am_st j).2.2.2) (frA k) s (kH k) := by
  have hs := flat_of_before _ hgv
  intro j hj
  obtain ⟨m1, m2⟩ := sz_4in j hj
  have hv : (Term.static (am_st j).1 (am_st j).2.1 (am_st j).2.2.1).eval args s none [] s = some (am_cv k (am_st j).2.2.2) := by
    match j, hj with
    | 0, _ => exact ht 2 (by decide)
    | 1, _ => exact ht 1 (by decide)
    | 2, _ => exact va_eqt (hs (Cond.eq (.static "java/lang/String" "COMPACT_STRINGS" "Z") (.int 1)) (by decide +kernel))
    | 3, _ => exact ht 42 (by decide)
    | 4, _ => exact ht 43 (by decide)
    | 5, _ => exact hf
  have h := va_Zof (hts _ m1) (hts _ m2) hv (sa_frA hk)
  rw [hk]
  exact h
theorem sz_5in : ∀ q ∈ am_str, q.2.2.2 < 44 ∧ sa_tm q.2.2.2 = .string q.1 q.2.1 := by decide +kernel
theorem sz_5 {k : C0} {s : State} {args : Array Value} (hts : ∀ w ∈ lw_tbl, w.before args s = true) (ht : ∀ b, b < 44 → (sa_tm b).eval args s none [] s = some (.ref (k.2.1 b))) : ∀ q, q ∈ am_str → vk_R q.1 q.2.1 q.2.2.1 (k.2.1 q.2.2.2) s := fun q hq => by
  obtain ⟨a, h1, h2⟩ := str_ex (hts _ (str_in q hq))
  obtain ⟨m1, m2⟩ := sz_5in q hq
  have h := ht q.2.2.2 m1
  rw [m2] at h
  have h' : (Term.string q.1 q.2.1).eval #[] s none [] s = some (.ref (k.2.1 q.2.2.2)) := h
  exact ⟨h1, h'⟩
/-- all that STAT asks, at the start -/
theorem sz_all {s : State} {b L : Nat} {xs : Nat → Int32} (hts : ∀ w ∈ lw_tbl, w.before #[Value.ref b] s = true) (hgv : (Jvm.Cond.and given_1 narrow_1).before #[Value.ref b] s = true) (hX : va_X b L xs s s.heap) (hbl : b < s.heap.size) (hL : L ≤ 260) : ∃ k : C0, k.1 = (L, xs) ∧ kH k = s.heap ∧ k.2.1 0 = b ∧ STAT k s ∧ (k.2.2.2.2.2.2 = .null ∨ ∃ a, k.2.2.2.2.2.2 = .ref a) := by
  obtain ⟨f, g, h1⟩ := sz_1 hts
  obtain ⟨c2, h2⟩ := sz_2 hts
  obtain ⟨ad, had⟩ := sa_ex hgv
  obtain ⟨fv, hfv, hfr⟩ := sa_fmt hgv
  have hb : ad 0 = b := by
    have h : some (Value.ref b) = some (Value.ref (ad 0)) := had 0 (by decide)
    cases h
    rfl
  let k : C0 := ((L, xs), ad, f, g, c2, s.heap, fv)
  have hA : ∀ a : Nat, a < s.heap.size → ¬ frA k a := sa_frA (k := k) rfl
  have h0 : va_T .int (k.2.1 0) k.1.1 (fun j => .int (k.1.2 j)) (frA k) s (kH k) := by
    obtain ⟨scr, q1, q2, q3, q4, q5⟩ := hX
    show va_T .int (ad 0) L (fun j => .int (xs j)) (frA k) s s.heap
    rw [hb]
    exact ⟨scr, q1, q2, q3, by omega, by rw [q4], q5, hA b hbl⟩
  exact ⟨k, rfl, rfl, hb, ⟨h1, h2, sz_3 (k := k) hgv had rfl h0, sz_4 (k := k) hts hgv had rfl hfv, sz_5 (k := k) hts had, sz_6 hts, sz_7 hts hgv hA, sz_8 hts, sz_9 hts, sz_10 hgv, hfr⟩, hfr⟩
