/-! what holds at the start: arrays, strings -/
theorem sz_2a {s : State} {args : Array Value} (hts : ∀ w ∈ lw_tbl, w.before args s = true) : ∀ t, t < 8 → ∃ c, ArrOfT s c (am_ty t) ∧ va_RA s c (am_ty t) := by
  have prim : ∀ ty : FieldType, (∀ C, ty ≠ .object C) → Cond.arrayClass ty ∈ lw_tbl → ∃ c, ArrOfT s c ty ∧ va_RA s c ty := fun ty hne hw => by
    obtain ⟨c, kA, comp, h1, h2, h3⟩ := Cond.arrayClass_spec (hts _ hw)
    refine ⟨c, fun n z => ⟨fun k h => (by cases h), kA, h2, comp, h3⟩, ?_⟩
    unfold va_RA
    split
    · exact absurd rfl (hne _)
    · exact h1
  have obj : ∀ C : String, Cond.arrayOver (.object C) ∈ lw_tbl → ∃ c, ArrOfT s c (.object C) ∧ va_RA s c (.object C) := fun C hw => by
    obtain ⟨comp, c, kA, h1, -, h2, h3, h4⟩ := Cond.arrayOver_spec (hts _ hw)
    exact ⟨c, fun n z => ⟨fun k h => (by cases h), kA, h2, comp, h3⟩, kA, comp, h2, h3, h1, h4⟩
  intro t ht
  match t, ht with
  | 0, _ => exact prim .int (fun C h => by cases h) (by decide +kernel)
  | 1, _ => exact prim .char (fun C h => by cases h) (by decide +kernel)
  | 2, _ => exact prim .long (fun C h => by cases h) (by decide +kernel)
  | 3, _ => exact prim .byte (fun C h => by cases h) (by decide +kernel)
  | 4, _ => exact obj "SmokeRelay$Row" (by decide +kernel)
  | 5, _ =>
    obtain ⟨comp, c, kA, h1, h2, h3, h4⟩ := Cond.arrayOver_specA (hts (.arrayOver (.array .int)) (by decide +kernel))
    exact ⟨c, fun n z => ⟨fun k h => (by cases h), kA, h2, comp, h3⟩, h4⟩
  | 6, _ => exact obj "SmokeRelay$Kind" (by decide +kernel)
  | 7, _ => exact prim .byte (fun C h => by cases h) (by decide +kernel)
theorem sz_2 {s : State} {args : Array Value} (hts : ∀ w ∈ lw_tbl, w.before args s = true) : ∃ f : Nat → ClassId, ∀ t, t < 8 → ArrOfT s (f t) (am_ty t) ∧ va_RA s (f t) (am_ty t) := by
  have h : ∀ t : Nat, ∃ c : ClassId, t < 8 → ArrOfT s c (am_ty t) ∧ va_RA s c (am_ty t) := fun t => by
    by_cases c : t < 8
    · obtain ⟨x, hx⟩ := sz_2a hts t c
      exact ⟨x, fun _ => hx⟩
    · exact ⟨0, fun z => absurd z c⟩
  exact ⟨fun t => Classical.choose (h t), fun t ht => Classical.choose_spec (h t) ht⟩
