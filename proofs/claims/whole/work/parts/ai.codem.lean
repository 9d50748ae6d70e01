/-! the model's cost of the best code -/
def offG (V W : VV) : Prop := ∀ a b, ¬ (a = 40) → W a b = V a b
theorem offG_refl (V : VV) : offG V V := fun _ _ _ => rfl
theorem offG_trans {V W Z : VV} (h : offG V W) (k : offG W Z) : offG V Z := fun a b z => (k a b z).trans (h a b z)
theorem offG_up {V : VV} {e v : Int} : offG V (upV V 40 0 e v) := fun a b h => upV_off h
theorem s_279 {d : Nat} {q : QQ} {V : VV} {m : Nat} (hm : m < 16) (hR : ∀ j : Int, 0 ≤ j → j < (m + 1 : Nat) → R32 (V 40 0 j)) : ∃ s : Int, (0 ≤ s ∧ s < (m + 1 : Nat)) ∧ (∀ j : Int, 0 ≤ j → j < (m + 1 : Nat) → V 40 0 s ≤ V 40 0 j) ∧ RUN d 279 (am_en 279 [aR 33 0, aI (iI ((m + 1 : Nat) : Int))]) (HM q V) = rI (V 40 0 s) (HM q (upV V 40 0 s (V 40 0 m))) := by
  have key : ∀ (k : Nat) (i r : Int), i + k = (m + 1 : Nat) → 0 ≤ i → 0 ≤ r ∧ r < (m + 1 : Nat) → (∀ j : Int, 0 ≤ j → j < i → V 40 0 r ≤ V 40 0 j) → ∃ s : Int, (0 ≤ s ∧ s < (m + 1 : Nat)) ∧ (∀ j : Int, 0 ≤ j → j < (m + 1 : Nat) → V 40 0 s ≤ V 40 0 j) ∧ RUN d 279 (4, [sR 33 0, sI ((m + 1 : Nat) : Int), sI r, sI i], []) (HM q V) = rI (V 40 0 s) (HM q (upV V 40 0 s (V 40 0 m))) := by
    intro k
    induction k with
    | zero =>
      intro i r hi h0 hr hle
      have ei : i = (m + 1 : Nat) := by omega
      refine ⟨r, hr, fun j a b => hle j a (by omega), ?_⟩
      have e := g_279_4 (d := d) (q := q) (V := V) (x1 := ((m + 1 : Nat) : Int)) (x2 := r) (x3 := i) (by omega) (by omega) (by omega) (fun c => absurd (by omega) c) (fun c => absurd (by omega) c)
      rw [show ((m + 1 : Nat) : Int) - 1 = (m : Int) by omega] at e
      exact e.trans (cif_pos (by omega))
    | succ k ih =>
      intro i r hi h0 hr hle
      have e := g_279_4 (d := d) (q := q) (V := V) (x1 := ((m + 1 : Nat) : Int)) (x2 := r) (x3 := i) (by omega) (by omega) (by omega) (fun c => hR r hr.1 hr.2) (fun c => hR i h0 (by omega))
      have e := e.trans (cif_neg (by omega))
      by_cases c : V 40 0 r ≤ V 40 0 i
      · obtain ⟨s, s1, s2, s3⟩ := ih (i + 1) r (by omega) (by omega) hr (fun j a b => by
          by_cases z : j = i
          · rw [z]; exact c
          · exact hle j a (by omega))
        exact ⟨s, s1, s2, (e.trans (cif_pos c)).trans s3⟩
      · obtain ⟨s, s1, s2, s3⟩ := ih (i + 1) i (by omega) (by omega) (by omega) (fun j a b => by
          by_cases z : j = i
          · rw [z]; exact Int.le_refl _
          · have := hle j a (by omega)
            omega)
        exact ⟨s, s1, s2, (e.trans (cif_neg c)).trans s3⟩
  obtain ⟨s, s1, s2, s3⟩ := key m 1 0 (by omega) (by decide) (by omega) (fun j a b => by
    have : j = 0 := by omega
    rw [this]
    exact Int.le_refl _)
  exact ⟨s, s1, s2, (g_279_0 (by omega)).trans s3⟩
theorem take_perm {f : Int → Int} {m : Nat} {s : Int} (h : 0 ≤ s ∧ s < (m + 1 : Nat)) : (lst f (m + 1)).Perm (f s :: lst (setF f s (f m)) m) := by
  have p := lst_swap (f := f) (i := s) (n := m) h.1 (by omega)
  rw [lst_last] at p
  exact p.symm
theorem joinM_go {d : Nat} {q : QQ} {U : VV} (rk : rowok U) : ∀ (m : Nat) (V : VV) (c : Int) (l2 l4 : Option AV), m < 16 → MR V U → gok (lst (V 40 0) (m + 1)) →
    ∃ h W, offG V W ∧ HC m (lst (V 40 0) (m + 1)) h ∧ RUN (d + 1) 278 (76, [sR 33 0, sI ((m + 1 : Nat) : Int), l2, sI c, l4], []) (HM q V) = rI (c + h) (HM q W) := by
  intro m
  induction m with
  | zero =>
    intro V c l2 l4 _ mr g
    refine ⟨0, V, offG_refl V, ⟨by rw [lst_len]; omega, rfl⟩, ?_⟩
    rw [g_278_76 rk mr (by decide), Int.add_zero]
    exact cif_pos (by decide)
  | succ m ih =>
    intro V c l2 l4 hm mr g
    obtain ⟨r, r1, r2, r3⟩ := s_279 (d := d) (q := q) (V := V) (m := m + 1) (by omega) (gok_R g)
    have P1 := take_perm (f := V 40 0) (m := m + 1) (s := r) r1
    have e1 : upV V 40 0 r (V 40 0 ((m + 1 : Nat) : Int)) 40 0 = setF (V 40 0) r (V 40 0 ((m + 1 : Nat) : Int)) := upV_row
    generalize hV1 : upV V 40 0 r (V 40 0 ((m + 1 : Nat) : Int)) = V1 at r3 e1
    have o1 : offG V V1 := by rw [← hV1]; exact offG_up
    have g1 : gok (lst (V1 40 0) (m + 1)) := by rw [e1]; exact gok_tail (gok_perm P1 g)
    obtain ⟨s, s1, s2, s3⟩ := s_279 (d := d) (q := q) (V := V1) (m := m) (by omega) (gok_R g1)
    have P2 := take_perm (f := V1 40 0) (m := m) (s := s) s1
    have e2 : upV V1 40 0 s (V1 40 0 m) 40 0 = setF (V1 40 0) s (V1 40 0 m) := upV_row
    generalize hV2 : upV V1 40 0 s (V1 40 0 m) = V2 at s3 e2
    have o2 : offG V1 V2 := by rw [← hV2]; exact offG_up
    rw [← e1] at P1
    rw [← e2] at P2
    have PP : (lst (V 40 0) (m + 1 + 1)).Perm (V 40 0 r :: V1 40 0 s :: lst (V2 40 0) m) := P1.trans (P2.cons _)
    have gg := gok_perm PP g
    have mr1 : MR V1 U := MR_off (o1 34 0 (by decide)) mr
    have mr2 : MR V2 U := MR_off (o2 34 0 (by decide)) mr1
    have o3 : offG V2 (upV V2 40 0 m (V 40 0 r + V1 40 0 s)) := offG_up
    have eL : lst (upV V2 40 0 m (V 40 0 r + V1 40 0 s) 40 0) (m + 1) = (V 40 0 r + V1 40 0 s) :: lst (V2 40 0) m := by
      rw [upV_row]
      exact lst_last
    obtain ⟨h, W, w1, w2, w3⟩ := ih (upV V2 40 0 m (V 40 0 r + V1 40 0 s)) (c + (V 40 0 r + V1 40 0 s)) l2 (sI (V 40 0 r + V1 40 0 s)) (by omega) (MR_off (o3 34 0 (by decide)) mr2) (by rw [eL]; exact gok_join gg)
    rw [eL] at w2
    refine ⟨V 40 0 r + V1 40 0 s + h, W, offG_trans o1 (offG_trans o2 (offG_trans o3 w1)), ⟨_, _, _, _, PP, ?_, ?_, w2, rfl⟩, ?_⟩
    · have := P1.mem_iff.2 (List.mem_cons_of_mem _ (show V1 40 0 s ∈ lst (V1 40 0) (m + 1) from mem_lst.2 ⟨s, s1.1, s1.2, rfl⟩))
      obtain ⟨j, j1, j2, j3⟩ := mem_lst.1 this
      rw [← j3]
      exact r2 j j1 j2
    · intro x hx
      have := P2.mem_iff.2 (List.mem_cons_of_mem _ hx)
      obtain ⟨j, j1, j2, j3⟩ := mem_lst.1 this
      rw [← j3]
      exact s2 j j1 j2
    · have x1 : ((m + 1 + 1 : Nat) : Int) - 1 = ((m + 1 : Nat) : Int) := by omega
      have x2 : ((m + 1 + 1 : Nat) : Int) + -1 = ((m + 1 : Nat) : Int) := by omega
      have x3 : ((m + 1 : Nat) : Int) - 1 = (m : Int) := by omega
      have f1 := g_278_76 (d := d) (q := q) (V := V) (x1 := ((m + 1 + 1 : Nat) : Int)) (l2 := l2) (x3 := c) (l4 := l4) rk mr (by constructor <;> omega)
      have f2 := g_278_83 (d := d) (l2 := l2) (x1 := ((m + 1 + 1 : Nat) : Int)) (x3 := c) (l4 := l4) rk mr r3 (qle_refl _)
      rw [x1] at f2
      have f3 := g_278_94 (d := d) (l2 := l2) (x1 := ((m + 1 + 1 : Nat) : Int)) (x3 := c) (l4 := sI (V 40 0 r)) (s2 := V 40 0 r) rk mr1 s3 (qle_refl _) (by omega)
      rw [x2, x3] at f3
      rw [← Int.add_assoc]
      exact (f1.trans (cif_neg (by omega))).trans (f2.trans (f3.trans w3))
theorem gatherM_go {d : Nat} {q : QQ} {U : VV} (rk : rowok U) : ∀ (k i : Nat) (V : VV) (s : Int) (l4 : Option AV), i + k = 16 → MR V U → lst (V 40 0) (posL (U 10 0) i).length = posL (U 10 0) i → s = sumL (posL (U 10 0) i) →
    ∃ W, offG V W ∧ lst (W 40 0) (posL (U 10 0) 16).length = posL (U 10 0) 16 ∧ RUN (d + 1) 278 (11, [sR 33 0, sI (posL (U 10 0) i).length, sI s, sI i, l4], []) (HM q V) = cif ((posL (U 10 0) 16).length = 1) (RUN (d + 1) 278 (76, [sR 33 0, sI (posL (U 10 0) 16).length, sI (sumL (posL (U 10 0) 16)), sI (sumL (posL (U 10 0) 16)), l4], []) (HM q W)) (RUN (d + 1) 278 (76, [sR 33 0, sI (posL (U 10 0) 16).length, sI (sumL (posL (U 10 0) 16)), sI 0, l4], []) (HM q W)) := by
  intro k
  induction k with
  | zero =>
    intro i V s l4 hi mr h2 hs
    have e : i = 16 := by omega
    subst e
    have := posL_len (f := U 10 0) (n := 16)
    refine ⟨V, offG_refl V, h2, ?_⟩
    rw [g_278_11 rk mr (by decide) (by omega) (fun c => absurd (by decide) c), cif_pos (by decide), hs]
    by_cases c : (posL (U 10 0) 16).length = 1
    · rw [cif_pos c, cif_pos (by omega)]
    · rw [cif_neg c, cif_neg (by omega)]
  | succ k ih =>
    intro i V s l4 hi mr h2 hs
    have hl := posL_len (f := U 10 0) (n := i)
    rw [g_278_11 rk mr (by omega) (by omega) (fun _ _ => by omega), cif_neg (by omega)]
    have e1 : (i : Int) + 1 = ((i + 1 : Nat) : Int) := by omega
    by_cases c : U 10 0 i ≤ 0
    · have e : posL (U 10 0) (i + 1) = posL (U 10 0) i := by
        show cif _ _ _ = _
        exact cif_pos c
      obtain ⟨W, w1, w2, w3⟩ := ih (i + 1) V s l4 (by omega) mr (by rw [e]; exact h2) (by rw [e]; exact hs)
      refine ⟨W, w1, w2, ?_⟩
      rw [cif_pos c, e1]
      rw [e] at w3
      exact w3
    · have e : posL (U 10 0) (i + 1) = U 10 0 i :: posL (U 10 0) i := by
        show cif _ _ _ = _
        exact cif_neg c
      have ho : offG V (upV V 40 0 (posL (U 10 0) i).length (U 10 0 i)) := offG_up
      obtain ⟨W, w1, w2, w3⟩ := ih (i + 1) (upV V 40 0 (posL (U 10 0) i).length (U 10 0 i)) (s + U 10 0 i) l4 (by omega) (MR_off (ho 34 0 (by decide)) mr) (by
          rw [e, List.length_cons, upV_row]
          unfold lst
          rw [setF_same, lst_congr (g := V 40 0) (fun j h1 h2 => setF_ne (by omega)), h2]) (by
          rw [e, hs]
          show _ = U 10 0 i + sumL (posL (U 10 0) i)
          omega)
      refine ⟨W, offG_trans ho w1, w2, ?_⟩
      rw [cif_neg c, e1]
      rw [e, List.length_cons] at w3
      exact w3
theorem s_278 {d : Nat} {q : QQ} {V U : VV} (rk : rowok U) (mr : MR V U) : ∃ c W, offG (upV V 33 0 6 0) W ∧ bcost (posL (U 10 0) 16) c ∧ RUN (d + 1) 278 (am_en 278 [aR 33 0]) (HM q V) = rI c (HM q W) := by
  have mr0 : MR (upV V 33 0 6 0) U := mr
  obtain ⟨W, w1, w2, w3⟩ := gatherM_go (d := d) (q := q) rk 16 0 (upV V 33 0 6 0) 0 none rfl mr0 rfl rfl
  have hg := gok_pos rk
  have hl := posL_len (f := U 10 0) (n := 16)
  have mrW : MR W U := MR_off (w1 34 0 (by decide)) mr0
  have e0 := (g_278_0 (d := d) (q := q) rk mr).trans w3
  generalize posL (U 10 0) 16 = L at w2 e0 hg hl
  by_cases c1 : L.length = 1
  · rw [cif_pos c1, c1, g_278_76 rk mrW (by decide)] at e0
    have e0 := e0.trans (cif_pos (by decide))
    refine ⟨sumL L, W, w1, ⟨fun _ => ?_, fun z => absurd c1 z⟩, e0⟩
    obtain ⟨x, hx⟩ : ∃ x, L = [x] := List.length_eq_one_iff.mp c1
    rw [hx]
    show [x] = [x + 0]
    rw [Int.add_zero]
  · rw [cif_neg c1] at e0
    cases hk : L.length with
    | zero =>
      rw [hk, g_278_76 rk mrW (by decide)] at e0
      refine ⟨0, W, w1, ⟨fun z => absurd z c1, fun _ => ?_⟩, e0.trans (cif_pos (by decide))⟩
      rw [hk]
      exact ⟨by omega, rfl⟩
    | succ m =>
      rw [hk] at w2 e0
      obtain ⟨h, Z, u1, u2, u3⟩ := joinM_go (d := d) (q := q) rk m W 0 (sI (sumL L)) none (by omega) mrW (by rw [w2]; exact hg)
      rw [w2] at u2
      refine ⟨h, Z, offG_trans w1 u1, ⟨fun z => absurd z c1, fun _ => ?_⟩, ?_⟩
      · rw [hk]
        exact u2
      · rw [Int.zero_add] at u3
        exact e0.trans u3
