/-! the commands one after another, on both sides -/
noncomputable def runC : Int → List (Int × List Int) → VV → Int × VV
  | _, [], U => (-1, U)
  | i, x :: xs, U => cif ((clsS U x).1 = 1) (runC (i + 1) xs (clsS U x).2) (i, (clsS U x).2)
theorem offT_trans {U V W : VV} (h : offT U V) (k : offT V W) : offT U W := ⟨fun a b z1 z2 z3 => (k.1 a b z1 z2 z3).trans (h.1 a b z1 z2 z3), fun j z => (k.2 j z).trans (h.2 j z)⟩
theorem offN_trans {U V W : VV} (h : offN U V) (k : offN V W) : offN U W := ⟨fun a b z => (k.1 a b z).trans (h.1 a b z), fun j z => (k.2 j z).trans (h.2 j z)⟩
theorem refS_trans {U V U1 V1 U2 V2 : VV} (h : refS U V U1 V1) (k : refS U1 V1 U2 V2) : refS U V U2 V2 := by
  rcases k with ⟨⟨k1, k2⟩, k3, k4⟩ | k
  · unfold refS
    rw [k1, k2, k3, k4]
    exact h
  · exact Or.inr k
theorem lc_go {d : Nat} : ∀ (xs : List (Int × List Int)) (i : Int) (U : VV) (B : Int), clsI B U → U 27 0 6 = i + xs.length → 0 ≤ i → i + xs.length ≤ 10 → B + 10 * xs.length ≤ 999900 → (∀ j : Nat, j < xs.length → cmdAt U (i + j) (xs.getD j (0, []))) → (∀ x ∈ xs, cmdOK x) →
    offT U (runC i xs U).2 ∧ relok (runC i xs U).2 ∧ smok (runC i xs U).2 ∧ ((runC i xs U).1 = -1 → clsI (B + 10 * xs.length) (runC i xs U).2) ∧ ((runC i xs U).1 = -1 ∨ 0 ≤ (runC i xs U).1 ∧ (runC i xs U).1 ≤ 9) ∧
      ∀ (q : QQ) (l : Option AV), RUN (d + 6) 171 (54, [sR 1 0, l, sI i], []) (HM q U) = cif ((runC i xs U).1 = -1) (RUN (d + 6) 171 (106, [sR 1 0, l, sI (i + xs.length)], []) (HM q (runC i xs U).2)) (RUN (d + 6) 171 (73, [sR 1 0, l, sI (runC i xs U).1], []) (HM q (runC i xs U).2)) := by
  intro xs
  induction xs with
  | nil =>
    intro i U B ci h6 hi hn hB ca ok
    have h6 : U 27 0 6 = i + 0 := h6
    refine ⟨offT_refl U, ci.2.1, ci.2.2, fun _ => ⟨RI_mono ci.1 (by omega), ci.2⟩, Or.inl rfl, fun q l => ?_⟩
    have e : (runC i [] U).1 = -1 := rfl
    rw [cif_pos e]
    have hn : i + 0 ≤ 10 := hn
    refine Eq.trans (k_iload rfl rfl) (Eq.trans (k_aload rfl rfl) (Eq.trans (k_getfr rfl rfl rfl) (Eq.trans (k_getfi 6 rfl rfl rfl rfl) (Eq.trans (Eq.trans (k_icmpc (U 27 0 6 ≤ i) rfl (iI_le (by constructor <;> omega) (by constructor <;> omega))) (cif_pos (by omega))) ?_))))
    rw [show i + (([] : List (Int × List Int)).length : Int) = i from Int.add_zero i]
    rfl
  | cons x xs ih =>
    intro i U B ci h6 hi hn hB ca ok
    have h6 : U 27 0 6 = i + ((xs.length + 1 : Nat) : Int) := h6
    have hn : i + ((xs.length + 1 : Nat) : Int) ≤ 10 := hn
    have hB : B + 10 * ((xs.length + 1 : Nat) : Int) ≤ 999900 := hB
    have c0 := ca 0 (Nat.succ_pos _)
    rw [show i + ((0 : Nat) : Int) = i by omega] at c0
    have c0 : cmdAt U i x := c0
    obtain ⟨s1, s2, s3, s4, s5, s6⟩ := stc_all (d := d) (by omega) ci ⟨hi, by omega⟩ c0 (ok x List.mem_cons_self)
    have go : ∀ (q : QQ) (l : Option AV), RUN (d + 6) 171 (54, [sR 1 0, l, sI i], []) (HM q U) = cif ((clsS U x).1 = 1) (RUN (d + 6) 171 (54, [sR 1 0, l, sI (i + 1)], []) (HM q (clsS U x).2)) (RUN (d + 6) 171 (73, [sR 1 0, l, sI i], []) (HM q (clsS U x).2)) := fun q l => by
      refine Eq.trans (k_iload rfl rfl) (Eq.trans (k_aload rfl rfl) (Eq.trans (k_getfr rfl rfl rfl) (Eq.trans (k_getfi 6 rfl rfl rfl rfl) (Eq.trans (Eq.trans (k_icmpc (U 27 0 6 ≤ i) rfl (iI_le (by constructor <;> omega) (by constructor <;> omega))) (cif_neg (by omega))) ?_))))
      refine Eq.trans (k_aload rfl rfl) (Eq.trans (k_iload rfl rfl) (Eq.trans (RUN_ci rfl rfl rfl (s1 q) (qle_refl _)) ?_))
      rcases s3 with z | z
      · rw [z, cif_neg (by decide)]
        exact (k_ifcN ((0 : Int) = 0) rfl (iI_ne0 (show R32 (0 : Int) by decide))).trans (cif_pos rfl)
      · rw [z, cif_pos rfl]
        exact Eq.trans (Eq.trans (k_ifcN ((1 : Int) = 0) rfl (iI_ne0 (show R32 (1 : Int) by decide))) (cif_neg (by decide))) (Eq.trans (k_iinc 1 rfl rfl rfl) (k_goto rfl))
    by_cases c : (clsS U x).1 = 1
    · have e : runC i (x :: xs) U = runC (i + 1) xs (clsS U x).2 := cif_pos c
      have e27 : (clsS U x).2 27 0 6 = U 27 0 6 := by rw [s2.1 27 0 (by omega) (by omega) (by omega)]
      obtain ⟨j1, j2, j3, j4, j5, j6⟩ := ih (i + 1) (clsS U x).2 (B + 10) (s6 c) (by rw [e27, h6]; omega) (by omega) (by omega) (by omega) (fun j hj => by
        have := ca (j + 1) (Nat.succ_lt_succ hj)
        rw [show i + ((j + 1 : Nat) : Int) = i + 1 + j by omega] at this
        obtain ⟨y1, y2⟩ := this
        exact ⟨by rw [s2.1 29 0 (by omega) (by omega) (by omega)]; exact y1, fun z hz => by rw [s2.1 30 0 (by omega) (by omega) (by omega)]; exact y2 z hz⟩) (fun y hy => ok y (List.mem_cons_of_mem _ hy))
      rw [e]
      refine ⟨offT_trans s2 j1, j2, j3, fun z => ?_, j5, fun q l => ?_⟩
      · obtain ⟨y1, y2⟩ := j4 z
        refine ⟨RI_mono y1 ?_, y2⟩
        show B + 10 + 10 * (xs.length : Int) ≤ B + 10 * ((xs.length + 1 : Nat) : Int)
        omega
      · rw [go q l, cif_pos c, j6 q l]
        rw [show i + (((x :: xs).length : Nat) : Int) = i + 1 + xs.length by show i + ((xs.length + 1 : Nat) : Int) = _; omega]
    · have e : runC i (x :: xs) U = (i, (clsS U x).2) := cif_neg c
      rw [e]
      have hne : ¬ ((i, (clsS U x).2) : Int × VV).1 = -1 := fun z => by
        have : i = -1 := z
        omega
      refine ⟨s2, s4, s5, fun z => absurd z hne, Or.inr ⟨hi, ?_⟩, fun q l => ?_⟩
      · show i ≤ 9
        omega
      · rw [go q l, cif_neg c, cif_neg hne]
theorem lm_go {d : Nat} : ∀ (xs : List (Int × List Int)) (i : Int) (U V : VV) (B : Int), stpR B U V → U 27 0 6 = i + xs.length → V 33 0 6 = 0 → V 33 0 23 = i + xs.length → 0 ≤ i → i + xs.length ≤ 10 → B + 10 * xs.length ≤ 999900 → (∀ j : Nat, j < xs.length → cmdAt U (i + j) (xs.getD j (0, []))) → (∀ j : Nat, j < xs.length → cmdM V (i + j) (xs.getD j (0, []))) → (∀ x ∈ xs, cmdOK x) →
    ∀ q : QQ, ∃ V', offN V V' ∧ refS U V (runC i xs U).2 V' ∧ ((runC i xs U).1 = -1 → V' 33 0 6 = 0 ∧ MR V' (runC i xs U).2) ∧ (¬ (runC i xs U).1 = -1 → 1 ≤ V' 33 0 6 ∧ V' 33 0 6 ≤ 3) ∧
      RUN (d + 7) 293 (125, [sR 33 0, sI i], []) (HM q V) = cif ((runC i xs U).1 = -1) (RUN (d + 7) 293 (166, [sR 33 0, sI (i + xs.length)], []) (HM q V')) (RUN (d + 7) 293 (145, [sR 33 0, sI (runC i xs U).1], []) (HM q V')) := by
  intro xs
  induction xs with
  | nil =>
    intro i U V B st hu h6 h23 hi hn hB cu cm ok q
    have h23 : V 33 0 23 = i + 0 := h23
    have hn : i + 0 ≤ 10 := hn
    have e : (runC i [] U).1 = -1 := rfl
    refine ⟨V, offN_refl V, Or.inl ⟨⟨rfl, rfl⟩, rfl, rfl⟩, fun _ => ⟨h6, st.2.1⟩, fun z => absurd rfl z, ?_⟩
    rw [cif_pos e]
    refine Eq.trans (k_iload rfl rfl) (Eq.trans (k_aload rfl rfl) (Eq.trans (k_getfi 23 rfl rfl rfl rfl) (Eq.trans (Eq.trans (k_icmpc (V 33 0 23 ≤ i) rfl (iI_le (by constructor <;> omega) (by constructor <;> omega))) (cif_pos (by omega))) ?_)))
    rw [show i + (([] : List (Int × List Int)).length : Int) = i from Int.add_zero i]
  | cons x xs ih =>
    intro i U V B st hu h6 h23 hi hn hB cu cm ok q
    have hu : U 27 0 6 = i + ((xs.length + 1 : Nat) : Int) := hu
    have h23 : V 33 0 23 = i + ((xs.length + 1 : Nat) : Int) := h23
    have hn : i + ((xs.length + 1 : Nat) : Int) ≤ 10 := hn
    have hB : B + 10 * ((xs.length + 1 : Nat) : Int) ≤ 999900 := hB
    have c0 := cu 0 (Nat.succ_pos _)
    rw [show i + ((0 : Nat) : Int) = i by omega] at c0
    have c0 : cmdAt U i x := c0
    have m0 := cm 0 (Nat.succ_pos _)
    rw [show i + ((0 : Nat) : Int) = i by omega] at m0
    have m0 : cmdM V i x := m0
    have okx := ok x List.mem_cons_self
    obtain ⟨s1, s2, s3, s4, s5, s6⟩ := stc_all (d := d) (by omega) ⟨st.1, st.2.2⟩ ⟨hi, by omega⟩ c0 okx
    obtain ⟨V1, v1, v2, v3, v4, v5⟩ := stm_all (d := d) (by omega) st h6 ⟨hi, by omega⟩ m0 okx q
    have e23 : V1 33 0 23 = V 33 0 23 := v1.2 23 (by omega)
    have r6 : R32 (V1 33 0 6) := by
      rcases s3 with z | z
      · have := v5 z
        constructor <;> omega
      · rw [(v4 z).1]; decide
    have go : RUN (d + 7) 293 (125, [sR 33 0, sI i], []) (HM q V) = cif (V1 33 0 6 ≤ 0) (RUN (d + 7) 293 (125, [sR 33 0, sI (i + 1)], []) (HM q V1)) (RUN (d + 7) 293 (145, [sR 33 0, sI i], []) (HM q V1)) := by
      refine Eq.trans (k_iload rfl rfl) (Eq.trans (k_aload rfl rfl) (Eq.trans (k_getfi 23 rfl rfl rfl rfl) (Eq.trans (Eq.trans (k_icmpc (V 33 0 23 ≤ i) rfl (iI_le (by constructor <;> omega) (by constructor <;> omega))) (cif_neg (by omega))) ?_)))
      refine Eq.trans (k_aload rfl rfl) (Eq.trans (k_iload rfl rfl) (Eq.trans (RUN_ci rfl rfl rfl v3 (qle_refl _)) (Eq.trans (k_aload rfl rfl) (Eq.trans (k_getfi 6 rfl rfl rfl rfl) (Eq.trans (k_ifc (V1 33 0 6 ≤ 0) rfl (iI_le0 r6)) (k_cifs (fun _ => ?_) (fun _ => rfl)))))))
      exact Eq.trans (k_iinc 1 rfl rfl rfl) (k_goto rfl)
    by_cases c : (clsS U x).1 = 1
    · have e : runC i (x :: xs) U = runC (i + 1) xs (clsS U x).2 := cif_pos c
      obtain ⟨w1, w2⟩ := v4 c
      obtain ⟨ci1, ci2, ci3⟩ := s6 c
      have e27 : (clsS U x).2 27 0 6 = U 27 0 6 := by rw [s2.1 27 0 (by omega) (by omega) (by omega)]
      obtain ⟨V2, j1, j2, j3, j4, j5⟩ := ih (i + 1) (clsS U x).2 V1 (B + 10) ⟨ci1, w2, ci2, ci3⟩ (by rw [e27, hu]; omega) w1 (by rw [e23, h23]; omega) (by omega) (by omega) (by omega) (fun j hj => by
        have := cu (j + 1) (Nat.succ_lt_succ hj)
        rw [show i + ((j + 1 : Nat) : Int) = i + 1 + j by omega] at this
        obtain ⟨y1, y2⟩ := this
        exact ⟨by rw [s2.1 29 0 (by omega) (by omega) (by omega)]; exact y1, fun z hz => by rw [s2.1 30 0 (by omega) (by omega) (by omega)]; exact y2 z hz⟩) (fun j hj => by
        have := cm (j + 1) (Nat.succ_lt_succ hj)
        rw [show i + ((j + 1 : Nat) : Int) = i + 1 + j by omega] at this
        obtain ⟨y1, y2⟩ := this
        exact ⟨by rw [v1.1 43 0 (by omega)]; exact y1, fun z hz => by rw [v1.1 43 0 (by omega)]; exact y2 z hz⟩) (fun y hy => ok y (List.mem_cons_of_mem _ hy)) q
      rw [e]
      refine ⟨V2, offN_trans v1 j1, refS_trans v2 j2, j3, j4, ?_⟩
      rw [go, cif_pos (by omega), j5]
      rw [show i + (((x :: xs).length : Nat) : Int) = i + 1 + xs.length by show i + ((xs.length + 1 : Nat) : Int) = _; omega]
    · have e : runC i (x :: xs) U = (i, (clsS U x).2) := cif_neg c
      have c0 : (clsS U x).1 = 0 := by
        rcases s3 with z | z
        · exact z
        · exact absurd z c
      have h5 := v5 c0
      rw [e]
      have hne : ¬ ((i, (clsS U x).2) : Int × VV).1 = -1 := fun z => by
        have : i = -1 := z
        omega
      refine ⟨V1, v1, v2, fun z => absurd z hne, fun _ => h5, ?_⟩
      rw [go, cif_neg (by omega), cif_neg hne]
