/-! what holds at the start: links, arrays over classes, classes apart -/
theorem nest_in : ∀ w ∈ am_nest, w.onTables = true ∧ w ∈ lw_tbl := by decide +kernel
theorem st_8 {s : State} {args : Array Value} (hts : ∀ w ∈ lw_tbl, w.before args s = true) : ∀ w ∈ am_nest, va_Nw w s := fun w hw => va_Nw.of (nest_in w hw).1 (hts w (nest_in w hw).2)
theorem st_9 {s : State} {args : Array Value} (hts : ∀ w ∈ lw_tbl, w.before args s = true) : va_AO "SmokeRelay$Row" s ∧ va_AO "SmokeRelay$Kind" s ∧ (Cond.arrayOver (.array .int)).before #[] s = true :=
  ⟨va_AO.of (hts (.arrayOver (.object "SmokeRelay$Row")) (by decide +kernel)), va_AO.of (hts (.arrayOver (.object "SmokeRelay$Kind")) (by decide +kernel)), hts (.arrayOver (.array .int)) (by decide +kernel)⟩
theorem st_10 {s : State} {args : Array Value} (hgv : (Jvm.Cond.and given_1 narrow_1).before args s = true) : ∀ x z, x < 6 → z < 6 → x ≠ z → va_Nc (am_exn x) (am_exn z) s := by
  have hs := flat_of_before _ hgv
  have key : ∀ x, x < 6 → ∀ z, z < 6 → x ≠ z → Cond.not (.castable (am_exn x) (am_exn z)) ∈ flatC (Jvm.Cond.and given_1 narrow_1) := by decide +kernel
  exact fun x z hx hz hn => va_Nc.of (hs _ (key x hx z hz hn))
/-- the statics that throwing looks at -/
theorem st_7 {s : State} {args : Array Value} {A : Nat → Prop} (hts : ∀ w ∈ lw_tbl, w.before args s = true) (hgv : (Jvm.Cond.and given_1 narrow_1).before args s = true) (hA : ∀ a : Nat, a < s.heap.size → ¬ A a) : vx_Zq Bundle.tN "UNASSIGNED_STACK" Bundle.steD A s s.heap ∧ vx_Zq Bundle.tN "SUPPRESSED_SENTINEL" Bundle.listD A s s.heap := by
  have hs := flat_of_before _ hgv
  exact ⟨vx_Zqof (hts _ (by decide +kernel)) (hts _ (by decide +kernel)) (hs _ (by decide +kernel)) hA, vx_Zqof (hts _ (by decide +kernel)) (hts _ (by decide +kernel)) (hs _ (by decide +kernel)) hA⟩
