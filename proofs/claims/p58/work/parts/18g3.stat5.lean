/-! what holds at the start: all that lies there -/
section
variable {k : C0} {s : State} {args : Array Value}
theorem sz_3 (hgv : sa_N.before args s = true) (ht : ∀ b, b < 44 → (sa_tm b).eval args s none [] s = some (.ref (k.2.1 b))) (hk : kH k = s.heap) (h0 : va_T .int (k.2.1 0) k.1.1 (fun j => .int (k.1.2 j)) (frA k) s (kH k)) : ∀ b, am_wk k s b (am_PS k.1.1 k.1.2 b) := fun b => match b with
  | 0 => ⟨by decide, h0⟩
  | 1 => ⟨by decide, sa_ints hgv ht hk (ty := .int) (n := 5) (f := fun j => nI (cond (Nat.beq j 4) 0 (j + 1))) (by decide) (by decide) (sa_sh 1 (by decide)) (by decide +kernel) (by decide +kernel)⟩
  | 2 => ⟨by decide, sa_kinds hgv ht hk⟩
  | 3 => sa_kind hgv ht hk (j := 0) (by decide)
  | 4 => sa_kind hgv ht hk (j := 1) (by decide)
  | 5 => sa_kind hgv ht hk (j := 2) (by decide)
  | 6 => sa_kind hgv ht hk (j := 3) (by decide)
  | 7 => sa_kind hgv ht hk (j := 4) (by decide)
  | 8 => sa_str hgv ht hk (j := 0) (by decide)
  | 9 => sa_str hgv ht hk (j := 1) (by decide)
  | 10 => sa_str hgv ht hk (j := 2) (by decide)
  | 11 => sa_str hgv ht hk (j := 3) (by decide)
  | 12 => sa_str hgv ht hk (j := 4) (by decide)
  | 13 => sa_str hgv ht hk (j := 5) (by decide)
  | 14 => sa_str hgv ht hk (j := 6) (by decide)
  | 15 => sa_str hgv ht hk (j := 7) (by decide)
  | 16 => sa_str hgv ht hk (j := 8) (by decide)
  | 17 => sa_str hgv ht hk (j := 9) (by decide)
  | 18 => sa_str hgv ht hk (j := 10) (by decide)
  | 19 => sa_str hgv ht hk (j := 11) (by decide)
  | 20 => sa_str hgv ht hk (j := 12) (by decide)
  | 21 => sa_str hgv ht hk (j := 13) (by decide)
  | 22 => sa_str hgv ht hk (j := 14) (by decide)
  | 23 => sa_str hgv ht hk (j := 15) (by decide)
  | 24 => sa_str hgv ht hk (j := 16) (by decide)
  | 25 => ⟨by decide, sa_ints hgv ht hk (ty := .byte) (n := 10) (f := fun j => [103, 114, 111, 117, 110, 100, 32, 78, 42, 68].getD j 0) (by decide) (by decide) (sa_sh 25 (by decide)) sk_25l (fun j hj => List.mem_of_getElem? (sk_25 j hj))⟩
  | 26 => ⟨by decide, sa_ints hgv ht hk (ty := .byte) (n := 11) (f := fun j => [116, 111, 119, 101, 114, 32, 78, 43, 68, 33, 68].getD j 0) (by decide) (by decide) (sa_sh 26 (by decide)) sk_26l (fun j hj => List.mem_of_getElem? (sk_26 j hj))⟩
  | 27 => ⟨by decide, sa_ints hgv ht hk (ty := .byte) (n := 8) (f := fun j => [109, 111, 111, 100, 32, 68, 33, 68].getD j 0) (by decide) (by decide) (sa_sh 27 (by decide)) sk_27l (fun j hj => List.mem_of_getElem? (sk_27 j hj))⟩
  | 28 => ⟨by decide, sa_ints hgv ht hk (ty := .byte) (n := 6) (f := fun j => [119, 105, 110, 100, 32, 87].getD j 0) (by decide) (by decide) (sa_sh 28 (by decide)) sk_28l (fun j hj => List.mem_of_getElem? (sk_28 j hj))⟩
  | 29 => ⟨by decide, sa_ints hgv ht hk (ty := .byte) (n := 10) (f := fun j => [115, 101, 110, 100, 32, 68, 62, 68, 58, 76].getD j 0) (by decide) (by decide) (sa_sh 29 (by decide)) sk_29l (fun j hj => List.mem_of_getElem? (sk_29 j hj))⟩
  | 30 => ⟨by decide, sa_ints hgv ht hk (ty := .byte) (n := 0) (f := fun j => [].getD j 0) (by decide) (by decide) (sa_sh 30 (by decide)) sk_30l (fun j hj => absurd hj (Nat.not_lt_zero j))⟩
  | 31 => ⟨by decide, sa_ints hgv ht hk (ty := .byte) (n := 1) (f := fun j => [43].getD j 0) (by decide) (by decide) (sa_sh 31 (by decide)) sk_31l (fun j hj => List.mem_of_getElem? (sk_31 j hj))⟩
  | 32 => ⟨by decide, sa_ints hgv ht hk (ty := .byte) (n := 1) (f := fun j => [33].getD j 0) (by decide) (by decide) (sa_sh 32 (by decide)) sk_32l (fun j hj => List.mem_of_getElem? (sk_32 j hj))⟩
  | 33 => ⟨by decide, sa_ints hgv ht hk (ty := .byte) (n := 1) (f := fun j => [58].getD j 0) (by decide) (by decide) (sa_sh 33 (by decide)) sk_33l (fun j hj => List.mem_of_getElem? (sk_33 j hj))⟩
  | 34 => ⟨by decide, sa_ints hgv ht hk (ty := .byte) (n := 1) (f := fun j => [48].getD j 0) (by decide) (by decide) (sa_sh 34 (by decide)) sk_34l (fun j hj => List.mem_of_getElem? (sk_34 j hj))⟩
  | 35 => ⟨by decide, sa_ints hgv ht hk (ty := .byte) (n := 1) (f := fun j => [62].getD j 0) (by decide) (by decide) (sa_sh 35 (by decide)) sk_35l (fun j hj => List.mem_of_getElem? (sk_35 j hj))⟩
  | 36 => ⟨by decide, sa_ints hgv ht hk (ty := .byte) (n := 1) (f := fun j => [61].getD j 0) (by decide) (by decide) (sa_sh 36 (by decide)) sk_36l (fun j hj => List.mem_of_getElem? (sk_36 j hj))⟩
  | 37 => ⟨by decide, sa_ints hgv ht hk (ty := .byte) (n := 8) (f := fun j => [42, 46, 42, 46, 42, 46, 46, 42].getD j 0) (by decide) (by decide) (sa_sh 37 (by decide)) sk_37l (fun j hj => List.mem_of_getElem? (sk_37 j hj))⟩
  | 38 => ⟨by decide, sa_ints hgv ht hk (ty := .byte) (n := 6) (f := fun j => [119, 105, 110, 100, 32, 45].getD j 0) (by decide) (by decide) (sa_sh 38 (by decide)) sk_38l (fun j hj => List.mem_of_getElem? (sk_38 j hj))⟩
  | 39 => ⟨by decide, sa_ints hgv ht hk (ty := .byte) (n := 8) (f := fun j => [59, 103, 114, 111, 117, 110, 100, 32].getD j 0) (by decide) (by decide) (sa_sh 39 (by decide)) sk_39l (fun j hj => List.mem_of_getElem? (sk_39 j hj))⟩
  | 40 => ⟨by decide, sa_ints hgv ht hk (ty := .byte) (n := 1) (f := fun j => [42].getD j 0) (by decide) (by decide) (sa_sh 40 (by decide)) sk_40l (fun j hj => List.mem_of_getElem? (sk_40 j hj))⟩
  | 41 => ⟨by decide, sa_ints hgv ht hk (ty := .byte) (n := 6) (f := fun j => [59, 115, 101, 110, 100, 32].getD j 0) (by decide) (by decide) (sa_sh 41 (by decide)) sk_41l (fun j hj => List.mem_of_getElem? (sk_41 j hj))⟩
  | 42 => ⟨by decide, sa_ints hgv ht hk (ty := .byte) (n := 100) (f := fun j => nI (48 + j % 10)) (by decide) (by decide) (sa_sh 42 (by decide)) sk_42l (fun j hj => List.mem_of_getElem? (sk_42 j hj))⟩
  | 43 => ⟨by decide, sa_ints hgv ht hk (ty := .byte) (n := 100) (f := fun j => nI (48 + j / 10)) (by decide) (by decide) (sa_sh 43 (by decide)) sk_43l (fun j hj => List.mem_of_getElem? (sk_43 j hj))⟩
  | _ + 44 => trivial
end
