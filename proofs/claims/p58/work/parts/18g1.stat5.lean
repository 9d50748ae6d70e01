/-! what holds at the start: what lies there already -/
def sa_tl : List Term := [.arg 0, .static "SmokeRelay$1" "$SwitchMap$SmokeRelay$Kind" "[I", .static "SmokeRelay$Input" "KINDS" "[LSmokeRelay$Kind;", .static "SmokeRelay$Kind" "GROUND" "LSmokeRelay$Kind;", .static "SmokeRelay$Kind" "TOWER" "LSmokeRelay$Kind;", .static "SmokeRelay$Kind" "MOOD" "LSmokeRelay$Kind;", .static "SmokeRelay$Kind" "WIND" "LSmokeRelay$Kind;", .static "SmokeRelay$Kind" "SEND" "LSmokeRelay$Kind;", .string "SmokeRelay$Kind" 43, .string "SmokeRelay$Kind" 49, .string "SmokeRelay$Kind" 52, .string "SmokeRelay$Kind" 55, .string "SmokeRelay$Kind" 58, .string "SmokeRelayLaw" 335, .string "SmokeRelayLaw" 354, .string "SmokeRelayLaw" 356, .string "SmokeRelayLaw" 358, .string "SmokeRelayLaw" 366, .string "SmokeRelayLaw" 368, .string "SmokeRelayLaw" 372, .string "SmokeRelayLaw" 384, .string "SmokeRelayLaw" 406, .string "SmokeRelayLaw" 408, .string "SmokeRelayLaw" 410, .string "SmokeRelayLaw" 412, .field (.string "SmokeRelay$Kind" 43) "java/lang/String" "value" "[B", .field (.string "SmokeRelay$Kind" 49) "java/lang/String" "value" "[B", .field (.string "SmokeRelay$Kind" 52) "java/lang/String" "value" "[B", .field (.string "SmokeRelay$Kind" 55) "java/lang/String" "value" "[B", .field (.string "SmokeRelay$Kind" 58) "java/lang/String" "value" "[B", .field (.string "SmokeRelayLaw" 335) "java/lang/String" "value" "[B", .field (.string "SmokeRelayLaw" 354) "java/lang/String" "value" "[B", .field (.string "SmokeRelayLaw" 356) "java/lang/String" "value" "[B", .field (.string "SmokeRelayLaw" 358) "java/lang/String" "value" "[B", .field (.string "SmokeRelayLaw" 366) "java/lang/String" "value" "[B", .field (.string "SmokeRelayLaw" 368) "java/lang/String" "value" "[B", .field (.string "SmokeRelayLaw" 372) "java/lang/String" "value" "[B", .field (.string "SmokeRelayLaw" 384) "java/lang/String" "value" "[B", .field (.string "SmokeRelayLaw" 406) "java/lang/String" "value" "[B", .field (.string "SmokeRelayLaw" 408) "java/lang/String" "value" "[B", .field (.string "SmokeRelayLaw" 410) "java/lang/String" "value" "[B", .field (.string "SmokeRelayLaw" 412) "java/lang/String" "value" "[B", .static "java/lang/Integer" "DigitOnes" "[B", .static "java/lang/Integer" "DigitTens" "[B"]
def sa_tm (b : Nat) : Term := sa_tl.getD b .null
abbrev sa_N : Jvm.Cond := Jvm.Cond.and given_1 narrow_1
def sa_ty (b : Nat) : FieldType := match b with
  | 0 => .int
  | 1 => .int
  | 2 => .object "SmokeRelay$Kind"
  | _ => .byte
def sa_ob (b : Nat) : String := cond (Nat.ble b 7) "SmokeRelay$Kind" "java/lang/String"
theorem sa_sh : ∀ b, b < 44 → cond (Nat.ble b 2 || Nat.ble 25 b) (Cond.arrayOf (sa_tm b) (sa_ty b)) (Cond.exactly (sa_tm b) (sa_ob b)) ∈ flatC sa_N := by decide +kernel
theorem sa_arr {s : State} {args : Array Value} {t : Term} {ty : FieldType} (h : (Cond.arrayOf t ty).before args s = true) : ∃ a : Nat, t.eval args s none [] s = some (.ref a) := by
  simp only [Cond.before, Cond.holds, Cond.value] at h
  cases hv : t.eval args s none [] s with
  | none => simp [hv] at h
  | some v => cases v <;> first | exact ⟨_, rfl⟩ | simp [hv] at h
theorem sa_ex {s : State} {args : Array Value} (hgv : sa_N.before args s = true) : ∃ ad : Nat → Nat, ∀ b, b < 44 → (sa_tm b).eval args s none [] s = some (.ref (ad b)) := by
  have hs := flat_of_before _ hgv
  have h : ∀ b : Nat, ∃ a : Nat, b < 44 → (sa_tm b).eval args s none [] s = some (.ref a) := fun b => by
    by_cases hb : b < 44
    · have m := hs _ (sa_sh b hb)
      cases e : (Nat.ble b 2 || Nat.ble 25 b) with
      | true => rw [e] at m; have m : (Cond.arrayOf (sa_tm b) (sa_ty b)).before args s = true := m; obtain ⟨a, ha⟩ := sa_arr m; exact ⟨a, fun _ => ha⟩
      | false => rw [e] at m; have m : (Cond.exactly (sa_tm b) (sa_ob b)).before args s = true := m; obtain ⟨a, c, cA, kA, q1, -⟩ := Cond.exactly_spec (args := args) (first := s) (o := none) (s := s) (idx := []) m; exact ⟨a, fun _ => q1⟩
    · exact ⟨0, fun h => absurd h hb⟩
  exact Classical.axiomOfChoice h
section
variable {k : C0} {s : State} {args : Array Value}
theorem sa_frA (hk : kH k = s.heap) : ∀ a : Nat, a < s.heap.size → ¬ frA k a := fun a h h' => by
  have h2 : (kH k).size ≤ a := h'
  rw [hk] at h2
  omega
theorem sa_ints (hgv : sa_N.before args s = true) (ht : ∀ b, b < 44 → (sa_tm b).eval args s none [] s = some (.ref (k.2.1 b))) (hk : kH k = s.heap) {b : Nat} {ty : FieldType} {n : Nat} {f : Nat → Int32} (hb : b < 44) (hN : n < 2 ^ 31) (h1 : Cond.arrayOf (sa_tm b) ty ∈ flatC sa_N) (h2 : Cond.eq (.length (sa_tm b)) (.int (Int32.ofNat n)) ∈ flatC sa_N) (h3 : ∀ j, j < n → Cond.eq (.elem (sa_tm b) (.int (Int32.ofNat j))) (.int (f j)) ∈ flatC sa_N) : va_T ty (k.2.1 b) n (fun j => .int (f j)) (frA k) s (kH k) := by
  have hs := flat_of_before _ hgv
  obtain ⟨t, e, hT⟩ := va_Tof (f := fun j => .int (f j)) hN (hs _ h1) (va_eqt (hs _ h2)) (fun j hj => va_eqt (hs _ (h3 j hj))) (sa_frA hk)
  cases (ht b hb).symm.trans e
  rw [hk]
  exact hT
theorem sa_kinds (hgv : sa_N.before args s = true) (ht : ∀ b, b < 44 → (sa_tm b).eval args s none [] s = some (.ref (k.2.1 b))) (hk : kH k = s.heap) : va_T (.object "SmokeRelay$Kind") (k.2.1 2) 5 (fun j => .ref (k.2.1 (3 + j))) (frA k) s (kH k) := by
  have hs := flat_of_before _ hgv
  have h3 : ∀ j, j < 5 → Cond.eq (.elem (sa_tm 2) (.int (Int32.ofNat j))) (sa_tm (3 + j)) ∈ flatC sa_N := by decide +kernel
  obtain ⟨t, e, hT⟩ := va_Tof (ty := .object "SmokeRelay$Kind") (N := 5) (f := fun j => .ref (k.2.1 (3 + j))) (by decide) (hs _ (sa_sh 2 (by decide))) (va_eqt (hs (Cond.eq (.length (sa_tm 2)) (.int (Int32.ofNat 5))) (by decide +kernel))) (fun j hj => Cond.eq_refs (hs _ (h3 j hj)) (ht (3 + j) (by omega)) rfl) (sa_frA hk)
  cases (ht 2 (by decide)).symm.trans e
  rw [hk]
  exact hT
theorem sa_kc : ∀ j, j < 5 → Cond.exactly (sa_tm (3 + j)) "SmokeRelay$Kind" ∈ flatC sa_N ∧ Cond.eq (.field (sa_tm (3 + j)) "java/lang/Enum" "ordinal" "I") (.int (Int32.ofNat j)) ∈ flatC sa_N ∧ Cond.eq (.field (sa_tm (3 + j)) "SmokeRelay$Kind" "form" "Ljava/lang/String;") (sa_tm (8 + j)) ∈ flatC sa_N := by decide +kernel
theorem sa_kind (hgv : sa_N.before args s = true) (ht : ∀ b, b < 44 → (sa_tm b).eval args s none [] s = some (.ref (k.2.1 b))) (hk : kH k = s.heap) {j : Nat} (hj : j < 5) : am_wk k s (3 + j) (some (Sum.inr (90, [aI (Int32.ofNat j), aR 0 (8 + j)]))) := by
  have hs := flat_of_before _ hgv
  obtain ⟨m1, m2, m3⟩ := sa_kc j hj
  refine ⟨Or.inl rfl, ?_, ?_⟩
  · have h := va_Oof (hs _ m1) (ht (3 + j) (by omega)) (sa_frA hk); rw [hk]; exact h
  · intro f hf
    have q0 := vk_OFof (ht (3 + j) (by omega)) (va_eqt (hs _ m2)) (sa_frA hk)
    have q1 := vk_OFof (ht (3 + j) (by omega)) (Cond.eq_refs (hs _ m3) (ht (8 + j) (by omega)) rfl) (sa_frA hk)
    rw [hk]
    match f, hf with
    | 0, _ => exact q0
    | 1, _ => exact q1
theorem sa_sc : ∀ j, j < 17 → sa_tm (25 + j) = .field (sa_tm (8 + j)) "java/lang/String" "value" "[B" ∧ Cond.exactly (sa_tm (8 + j)) "java/lang/String" ∈ flatC sa_N ∧ Cond.eq (.field (sa_tm (8 + j)) "java/lang/String" "coder" "B") (.int 0) ∈ flatC sa_N := by decide +kernel
theorem sa_str (hgv : sa_N.before args s = true) (ht : ∀ b, b < 44 → (sa_tm b).eval args s none [] s = some (.ref (k.2.1 b))) (hk : kH k = s.heap) {j : Nat} (hj : j < 17) : am_wk k s (8 + j) (some (Sum.inr (91, [aR 0 (25 + j), aI 0]))) := by
  have hs := flat_of_before _ hgv
  obtain ⟨m1, m2, m3⟩ := sa_sc j hj
  refine ⟨Or.inr rfl, ?_, ?_⟩
  · have h := va_Oof (hs _ m2) (ht (8 + j) (by omega)) (sa_frA hk); rw [hk]; exact h
  · intro f hf
    have e1 := ht (25 + j) (by omega)
    rw [m1] at e1
    have q0 := vk_OFof (ht (8 + j) (by omega)) e1 (sa_frA hk)
    have q1 := vk_OFof (ht (8 + j) (by omega)) (va_eqt (hs _ m3)) (sa_frA hk)
    rw [hk]
    match f, hf with
    | 0, _ => exact q0
    | 1, _ => exact q1

end
