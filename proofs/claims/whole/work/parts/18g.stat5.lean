/-! what holds at the start: what lies there already -/
def sa_tl : List Term := [.arg 0, .static "SmokeRelay$1" "$SwitchMap$SmokeRelay$Kind" "[I", .static "SmokeRelay$Input" "KINDS" "[LSmokeRelay$Kind;", .static "SmokeRelay$Kind" "GROUND" "LSmokeRelay$Kind;", .static "SmokeRelay$Kind" "TOWER" "LSmokeRelay$Kind;", .static "SmokeRelay$Kind" "MOOD" "LSmokeRelay$Kind;", .static "SmokeRelay$Kind" "WIND" "LSmokeRelay$Kind;", .static "SmokeRelay$Kind" "SEND" "LSmokeRelay$Kind;", .string "SmokeRelay$Kind" 43, .string "SmokeRelay$Kind" 49, .string "SmokeRelay$Kind" 52, .string "SmokeRelay$Kind" 55, .string "SmokeRelay$Kind" 58, .string "SmokeRelayModel" 246, .string "SmokeRelayModel" 255, .string "SmokeRelayModel" 257, .string "SmokeRelayModel" 259, .string "SmokeRelayModel" 261, .string "SmokeRelayModel" 263, .string "SmokeRelayModel" 265, .string "SmokeRelayModel" 267, .string "SmokeRelayModel" 269, .string "SmokeRelayModel" 271, .field (.string "SmokeRelay$Kind" 43) "java/lang/String" "value" "[B", .field (.string "SmokeRelay$Kind" 49) "java/lang/String" "value" "[B", .field (.string "SmokeRelay$Kind" 52) "java/lang/String" "value" "[B", .field (.string "SmokeRelay$Kind" 55) "java/lang/String" "value" "[B", .field (.string "SmokeRelay$Kind" 58) "java/lang/String" "value" "[B", .field (.string "SmokeRelayModel" 246) "java/lang/String" "value" "[B", .field (.string "SmokeRelayModel" 255) "java/lang/String" "value" "[B", .field (.string "SmokeRelayModel" 257) "java/lang/String" "value" "[B", .field (.string "SmokeRelayModel" 259) "java/lang/String" "value" "[B", .field (.string "SmokeRelayModel" 261) "java/lang/String" "value" "[B", .field (.string "SmokeRelayModel" 263) "java/lang/String" "value" "[B", .field (.string "SmokeRelayModel" 265) "java/lang/String" "value" "[B", .field (.string "SmokeRelayModel" 267) "java/lang/String" "value" "[B", .field (.string "SmokeRelayModel" 269) "java/lang/String" "value" "[B", .field (.string "SmokeRelayModel" 271) "java/lang/String" "value" "[B"]
def sa_tm (b : Nat) : Term := sa_tl.getD b .null
abbrev sa_N : Jvm.Cond := Jvm.Cond.and given_1 narrow_1
def sa_ty (b : Nat) : FieldType := match b with
  | 0 => .int
  | 1 => .int
  | 2 => .object "SmokeRelay$Kind"
  | _ => .byte
def sa_ob (b : Nat) : String := cond (Nat.ble b 7) "SmokeRelay$Kind" "java/lang/String"
theorem sa_sh : ∀ b, b < 38 → cond (Nat.ble b 2 || Nat.ble 23 b) (Cond.arrayOf (sa_tm b) (sa_ty b)) (Cond.exactly (sa_tm b) (sa_ob b)) ∈ flatC sa_N := by decide +kernel
theorem sa_arr {s : State} {args : Array Value} {t : Term} {ty : FieldType} (h : (Cond.arrayOf t ty).before args s = true) : ∃ a : Nat, t.eval args s none [] s = some (.ref a) := by
  simp only [Cond.before, Cond.holds, Cond.value] at h
  cases hv : t.eval args s none [] s with
  | none => simp [hv] at h
  | some v => cases v <;> first | exact ⟨_, rfl⟩ | simp [hv] at h
theorem sa_ex {s : State} {args : Array Value} (hgv : sa_N.before args s = true) : ∃ ad : Nat → Nat, ∀ b, b < 38 → (sa_tm b).eval args s none [] s = some (.ref (ad b)) := by
  have hs := flat_of_before _ hgv
  have h : ∀ b : Nat, ∃ a : Nat, b < 38 → (sa_tm b).eval args s none [] s = some (.ref a) := fun b => by
    by_cases hb : b < 38
    · have m := hs _ (sa_sh b hb)
      cases e : (Nat.ble b 2 || Nat.ble 23 b) with
      | true => rw [e] at m; have m : (Cond.arrayOf (sa_tm b) (sa_ty b)).before args s = true := m; obtain ⟨a, ha⟩ := sa_arr m; exact ⟨a, fun _ => ha⟩
      | false => rw [e] at m; have m : (Cond.exactly (sa_tm b) (sa_ob b)).before args s = true := m; obtain ⟨a, c, cA, kA, q1, -⟩ := Cond.exactly_spec (args := args) (first := s) (o := none) (s := s) (idx := []) m; exact ⟨a, fun _ => q1⟩
    · exact ⟨0, fun h => absurd h hb⟩
  exact Classical.axiomOfChoice h
section
variable {k : C0} {s : State} {args : Array Value}
theorem sa_frA (hk : kH k = s.heap) : ∀ a : Nat, a < s.heap.size → ¬ frA k a := fun a h h' => by
  have h2 : (kH k).size ≤ a := h'
  rw [hk] at h2
  omega
theorem sa_ints (hgv : sa_N.before args s = true) (ht : ∀ b, b < 38 → (sa_tm b).eval args s none [] s = some (.ref (k.2.1 b))) (hk : kH k = s.heap) {b : Nat} {ty : FieldType} {n : Nat} {f : Nat → Int32} (hb : b < 38) (hN : n < 2 ^ 31) (h1 : Cond.arrayOf (sa_tm b) ty ∈ flatC sa_N) (h2 : Cond.eq (.length (sa_tm b)) (.int (Int32.ofNat n)) ∈ flatC sa_N) (h3 : ∀ j, j < n → Cond.eq (.elem (sa_tm b) (.int (Int32.ofNat j))) (.int (f j)) ∈ flatC sa_N) : va_T ty (k.2.1 b) n (fun j => .int (f j)) (frA k) s (kH k) := by
  have hs := flat_of_before _ hgv
  obtain ⟨t, e, hT⟩ := va_Tof (f := fun j => .int (f j)) hN (hs _ h1) (va_eqt (hs _ h2)) (fun j hj => va_eqt (hs _ (h3 j hj))) (sa_frA hk)
  cases (ht b hb).symm.trans e
  rw [hk]
  exact hT
theorem sa_kinds (hgv : sa_N.before args s = true) (ht : ∀ b, b < 38 → (sa_tm b).eval args s none [] s = some (.ref (k.2.1 b))) (hk : kH k = s.heap) : va_T (.object "SmokeRelay$Kind") (k.2.1 2) 5 (fun j => .ref (k.2.1 (3 + j))) (frA k) s (kH k) := by
  have hs := flat_of_before _ hgv
  have h3 : ∀ j, j < 5 → Cond.eq (.elem (sa_tm 2) (.int (Int32.ofNat j))) (sa_tm (3 + j)) ∈ flatC sa_N := by decide +kernel
  obtain ⟨t, e, hT⟩ := va_Tof (ty := .object "SmokeRelay$Kind") (N := 5) (f := fun j => .ref (k.2.1 (3 + j))) (by decide) (hs _ (sa_sh 2 (by decide))) (va_eqt (hs (Cond.eq (.length (sa_tm 2)) (.int (Int32.ofNat 5))) (by decide +kernel))) (fun j hj => Cond.eq_refs (hs _ (h3 j hj)) (ht (3 + j) (by omega)) rfl) (sa_frA hk)
  cases (ht 2 (by decide)).symm.trans e
  rw [hk]
  exact hT
theorem sa_kc : ∀ j, j < 5 → Cond.exactly (sa_tm (3 + j)) "SmokeRelay$Kind" ∈ flatC sa_N ∧ Cond.eq (.field (sa_tm (3 + j)) "java/lang/Enum" "ordinal" "I") (.int (Int32.ofNat j)) ∈ flatC sa_N ∧ Cond.eq (.field (sa_tm (3 + j)) "SmokeRelay$Kind" "form" "Ljava/lang/String;") (sa_tm (8 + j)) ∈ flatC sa_N := by decide +kernel
theorem sa_kind (hgv : sa_N.before args s = true) (ht : ∀ b, b < 38 → (sa_tm b).eval args s none [] s = some (.ref (k.2.1 b))) (hk : kH k = s.heap) {j : Nat} (hj : j < 5) : am_wk k s (3 + j) (some (Sum.inr (90, [aI (Int32.ofNat j), aR 0 (8 + j)]))) := by
  have hs := flat_of_before _ hgv
  obtain ⟨m1, m2, m3⟩ := sa_kc j hj
  refine ⟨Or.inl rfl, ?_, ?_⟩
  · have h := va_Oof (hs _ m1) (ht (3 + j) (by omega)) (sa_frA hk); rw [hk]; exact h
  · intro f hf
    have q0 := vk_OFof (ht (3 + j) (by omega)) (va_eqt (hs _ m2)) (sa_frA hk)
    have q1 := vk_OFof (ht (3 + j) (by omega)) (Cond.eq_refs (hs _ m3) (ht (8 + j) (by omega)) rfl) (sa_frA hk)
    rw [hk]
    match f, hf with
    | 0, _ => exact q0
    | 1, _ => exact q1
theorem sa_sc : ∀ j, j < 15 → sa_tm (23 + j) = .field (sa_tm (8 + j)) "java/lang/String" "value" "[B" ∧ Cond.exactly (sa_tm (8 + j)) "java/lang/String" ∈ flatC sa_N ∧ Cond.eq (.field (sa_tm (8 + j)) "java/lang/String" "coder" "B") (.int 0) ∈ flatC sa_N := by decide +kernel
theorem sa_str (hgv : sa_N.before args s = true) (ht : ∀ b, b < 38 → (sa_tm b).eval args s none [] s = some (.ref (k.2.1 b))) (hk : kH k = s.heap) {j : Nat} (hj : j < 15) : am_wk k s (8 + j) (some (Sum.inr (91, [aR 0 (23 + j), aI 0]))) := by
  have hs := flat_of_before _ hgv
  obtain ⟨m1, m2, m3⟩ := sa_sc j hj
  refine ⟨Or.inr rfl, ?_, ?_⟩
  · have h := va_Oof (hs _ m2) (ht (8 + j) (by omega)) (sa_frA hk); rw [hk]; exact h
  · intro f hf
    have e1 := ht (23 + j) (by omega)
    rw [m1] at e1
    have q0 := vk_OFof (ht (8 + j) (by omega)) e1 (sa_frA hk)
    have q1 := vk_OFof (ht (8 + j) (by omega)) (va_eqt (hs _ m3)) (sa_frA hk)
    rw [hk]
    match f, hf with
    | 0, _ => exact q0
    | 1, _ => exact q1

theorem st_3 (hgv : sa_N.before args s = true) (ht : ∀ b, b < 38 → (sa_tm b).eval args s none [] s = some (.ref (k.2.1 b))) (hk : kH k = s.heap) (h0 : va_T .int (k.2.1 0) k.1.1 (fun j => .int (k.1.2 j)) (frA k) s (kH k)) : ∀ b, am_wk k s b (am_PS k.1.1 k.1.2 b) := fun b => match b with
  | 0 => ⟨by decide, h0⟩
  | 1 => ⟨by decide, sa_ints hgv ht hk (ty := .int) (n := 5) (f := fun j => nI (cond (Nat.beq j 4) 0 (j + 1))) (by decide) (by decide) (sa_sh 1 (by decide)) (by decide +kernel) (by decide +kernel)⟩
  | 2 => ⟨by decide, sa_kinds hgv ht hk⟩
  | 3 => sa_kind hgv ht hk (j := 0) (by decide)
  | 4 => sa_kind hgv ht hk (j := 1) (by decide)
  | 5 => sa_kind hgv ht hk (j := 2) (by decide)
  | 6 => sa_kind hgv ht hk (j := 3) (by decide)
  | 7 => sa_kind hgv ht hk (j := 4) (by decide)
  | 8 => sa_str hgv ht hk (j := 0) (by decide)
  | 9 => sa_str hgv ht hk (j := 1) (by decide)
  | 10 => sa_str hgv ht hk (j := 2) (by decide)
  | 11 => sa_str hgv ht hk (j := 3) (by decide)
  | 12 => sa_str hgv ht hk (j := 4) (by decide)
  | 13 => sa_str hgv ht hk (j := 5) (by decide)
  | 14 => sa_str hgv ht hk (j := 6) (by decide)
  | 15 => sa_str hgv ht hk (j := 7) (by decide)
  | 16 => sa_str hgv ht hk (j := 8) (by decide)
  | 17 => sa_str hgv ht hk (j := 9) (by decide)
  | 18 => sa_str hgv ht hk (j := 10) (by decide)
  | 19 => sa_str hgv ht hk (j := 11) (by decide)
  | 20 => sa_str hgv ht hk (j := 12) (by decide)
  | 21 => sa_str hgv ht hk (j := 13) (by decide)
  | 22 => sa_str hgv ht hk (j := 14) (by decide)
  | 23 => ⟨by decide, sa_ints hgv ht hk (ty := .byte) (n := 10) (f := fun j => [103, 114, 111, 117, 110, 100, 32, 78, 42, 68].getD j 0) (by decide) (by decide) (sa_sh 23 (by decide)) (by decide +kernel) (by decide +kernel)⟩
  | 24 => ⟨by decide, sa_ints hgv ht hk (ty := .byte) (n := 11) (f := fun j => [116, 111, 119, 101, 114, 32, 78, 43, 68, 33, 68].getD j 0) (by decide) (by decide) (sa_sh 24 (by decide)) (by decide +kernel) (by decide +kernel)⟩
  | 25 => ⟨by decide, sa_ints hgv ht hk (ty := .byte) (n := 8) (f := fun j => [109, 111, 111, 100, 32, 68, 33, 68].getD j 0) (by decide) (by decide) (sa_sh 25 (by decide)) (by decide +kernel) (by decide +kernel)⟩
  | 26 => ⟨by decide, sa_ints hgv ht hk (ty := .byte) (n := 6) (f := fun j => [119, 105, 110, 100, 32, 87].getD j 0) (by decide) (by decide) (sa_sh 26 (by decide)) (by decide +kernel) (by decide +kernel)⟩
  | 27 => ⟨by decide, sa_ints hgv ht hk (ty := .byte) (n := 10) (f := fun j => [115, 101, 110, 100, 32, 68, 62, 68, 58, 76].getD j 0) (by decide) (by decide) (sa_sh 27 (by decide)) (by decide +kernel) (by decide +kernel)⟩
  | 28 => ⟨by decide, sa_ints hgv ht hk (ty := .byte) (n := 7) (f := fun j => [103, 114, 111, 117, 110, 100, 32].getD j 0) (by decide) (by decide) (sa_sh 28 (by decide)) (by decide +kernel) (by decide +kernel)⟩
  | 29 => ⟨by decide, sa_ints hgv ht hk (ty := .byte) (n := 1) (f := fun j => [42].getD j 0) (by decide) (by decide) (sa_sh 29 (by decide)) (by decide +kernel) (by decide +kernel)⟩
  | 30 => ⟨by decide, sa_ints hgv ht hk (ty := .byte) (n := 6) (f := fun j => [116, 111, 119, 101, 114, 32].getD j 0) (by decide) (by decide) (sa_sh 30 (by decide)) (by decide +kernel) (by decide +kernel)⟩
  | 31 => ⟨by decide, sa_ints hgv ht hk (ty := .byte) (n := 1) (f := fun j => [43].getD j 0) (by decide) (by decide) (sa_sh 31 (by decide)) (by decide +kernel) (by decide +kernel)⟩
  | 32 => ⟨by decide, sa_ints hgv ht hk (ty := .byte) (n := 1) (f := fun j => [33].getD j 0) (by decide) (by decide) (sa_sh 32 (by decide)) (by decide +kernel) (by decide +kernel)⟩
  | 33 => ⟨by decide, sa_ints hgv ht hk (ty := .byte) (n := 5) (f := fun j => [109, 111, 111, 100, 32].getD j 0) (by decide) (by decide) (sa_sh 33 (by decide)) (by decide +kernel) (by decide +kernel)⟩
  | 34 => ⟨by decide, sa_ints hgv ht hk (ty := .byte) (n := 5) (f := fun j => [119, 105, 110, 100, 32].getD j 0) (by decide) (by decide) (sa_sh 34 (by decide)) (by decide +kernel) (by decide +kernel)⟩
  | 35 => ⟨by decide, sa_ints hgv ht hk (ty := .byte) (n := 5) (f := fun j => [115, 101, 110, 100, 32].getD j 0) (by decide) (by decide) (sa_sh 35 (by decide)) (by decide +kernel) (by decide +kernel)⟩
  | 36 => ⟨by decide, sa_ints hgv ht hk (ty := .byte) (n := 1) (f := fun j => [62].getD j 0) (by decide) (by decide) (sa_sh 36 (by decide)) (by decide +kernel) (by decide +kernel)⟩
  | 37 => ⟨by decide, sa_ints hgv ht hk (ty := .byte) (n := 1) (f := fun j => [58].getD j 0) (by decide) (by decide) (sa_sh 37 (by decide)) (by decide +kernel) (by decide +kernel)⟩
  | _ + 38 => trivial
end
