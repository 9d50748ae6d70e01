/-! the cost of the code, by joining -/
/-- nothing but the cells of the codes is another -/
def offC (V W : VV) : Prop := ∀ a b, ¬ (24 ≤ a ∧ a ≤ 26) → W a b = V a b
theorem offC_refl (V : VV) : offC V V := fun _ _ _ => rfl
theorem offC_trans {V W U : VV} (h : offC V W) (h2 : offC W U) : offC V U := fun a b z => (h2 a b z).trans (h a b z)
theorem upV_off {V : VV} {a b : Nat} {e v : Int} {a' b' : Nat} (h : a' ≠ a) : upV V a b e v a' b' = V a' b' := by
  funext j
  show cond (Nat.beq a' a && Nat.beq b' b) _ _ = _
  have : Nat.beq a' a = false := by
    cases k : Nat.beq a' a with
    | false => rfl
    | true => exact absurd (Nat.eq_of_beq_eq_true k) h
  rw [this]
  rfl
theorem offC_up {V : VV} {a b : Nat} {e v : Int} (h : 24 ≤ a ∧ a ≤ 26) : offC V (upV V a b e v) := fun a' b' z => upV_off (by omega)
theorem rowok_off {V W : VV} (h : offC V W) (rk : rowok V) : rowok W := by
  unfold rowok rowB
  rw [h 2 0 (by decide), h 3 0 (by decide), h 4 0 (by decide), h 5 0 (by decide), h 6 0 (by decide), h 7 0 (by decide), h 8 0 (by decide), h 9 0 (by decide), h 10 0 (by decide)]
  exact rk
theorem gather_go {d : Nat} {q : QQ} : ∀ (k i : Nat) (V : VV), i + k = 16 → rowok V → V 24 0 3 = (posL (V 10 0) i).length → lst (V 25 0) (posL (V 10 0) i).length = posL (V 10 0) i →
    ∃ W, offC V W ∧ W 24 0 3 = (posL (V 10 0) 16).length ∧ lst (W 25 0) (posL (V 10 0) 16).length = posL (V 10 0) 16 ∧ RUN d 34 (7, [sR 24 0, sI i], []) (HM q V) = rV (HM q W) := by
  intro k
  induction k with
  | zero =>
    intro i V hi rk h1 h2
    have e : i = 16 := by omega
    subst e
    have := posL_len (f := V 10 0) (n := 16)
    refine ⟨V, offC_refl V, h1, h2, ?_⟩
    rw [g_34_7 rk (by omega) (by omega) (fun c => absurd (by decide) c)]
    exact cif_pos (by decide)
  | succ k ih =>
    intro i V hi rk h1 h2
    have hl := posL_len (f := V 10 0) (n := i)
    rw [g_34_7 rk (by omega) (by omega) (fun _ _ => by omega), cif_neg (by omega)]
    have e1 : (i : Int) + 1 = ((i + 1 : Nat) : Int) := by omega
    by_cases c : V 10 0 i ≤ 0
    · have e : posL (V 10 0) (i + 1) = posL (V 10 0) i := by
        show cif _ _ _ = _
        exact cif_pos c
      obtain ⟨W, w1, w2, w3, w4⟩ := ih (i + 1) V (by omega) rk (by rw [e]; exact h1) (by rw [e]; exact h2)
      refine ⟨W, w1, w2, w3, ?_⟩
      rw [cif_pos c, e1]
      exact w4
    · have e : posL (V 10 0) (i + 1) = V 10 0 i :: posL (V 10 0) i := by
        show cif _ _ _ = _
        exact cif_neg c
      have ho : offC V (upV (upV V 24 0 3 (V 24 0 3 + 1)) 25 0 (V 24 0 3) (V 10 0 i)) := offC_trans (offC_up (by decide)) (offC_up (by decide))
      obtain ⟨W, w1, w2, w3, w4⟩ := ih (i + 1) (upV (upV V 24 0 3 (V 24 0 3 + 1)) 25 0 (V 24 0 3) (V 10 0 i)) (by omega) (rowok_off ho rk) (by
          rw [ho 10 0 (by decide), e, List.length_cons]
          show (if (3 : Int) = 3 then V 24 0 3 + 1 else V 24 0 3) = _
          rw [if_pos rfl, h1]
          omega) (by
          rw [ho 10 0 (by decide), e, List.length_cons]
          show lst (setF (V 25 0) (V 24 0 3) (V 10 0 i)) _ = _
          unfold lst
          rw [h1, setF_same, lst_congr (g := V 25 0) (fun j h1 h2 => setF_ne (by omega)), h2])
      rw [ho 10 0 (by decide)] at w2 w3
      refine ⟨W, offC_trans ho w1, w2, w3, ?_⟩
      rw [cif_neg c, e1]
      exact w4
theorem s_34 {d : Nat} {q : QQ} {V : VV} (rk : rowok V) : ∃ W, offC V W ∧ W 24 0 3 = (posL (V 10 0) 16).length ∧ lst (W 25 0) (posL (V 10 0) 16).length = posL (V 10 0) 16 ∧ RUN d 34 (am_en 34 [aR 24 0]) (HM q V) = rV (HM q W) := by
  have ho : offC V (upV V 24 0 3 0) := offC_up (by decide)
  obtain ⟨W, w1, w2, w3, w4⟩ := gather_go (d := d) (q := q) 16 0 (upV V 24 0 3 0) rfl (rowok_off ho rk) rfl rfl
  exact ⟨W, offC_trans ho w1, w2, w3, (g_34_0 rk).trans w4⟩
/-- two numbers of the groups change places -/
def swpV (V : VV) (r e : Int) : VV := upV (upV V 25 0 r (V 25 0 e)) 25 0 e (V 25 0 r)
theorem swpV_25 (V : VV) (r e : Int) : swpV V r e 25 0 = setF (setF (V 25 0) r (V 25 0 e)) e (V 25 0 r) := rfl
theorem offC_swp (V : VV) (r e : Int) : offC V (swpV V r e) := offC_trans (offC_up (by decide)) (offC_up (by decide))
theorem rarest_go {d : Nat} {q : QQ} {V : VV} {n : Int} (p : 1 ≤ n ∧ n < 17) (hR : ∀ j, 0 ≤ j → j < n → R32 (V 25 0 j)) : ∀ (k : Nat) (i r : Int), i + k = n → 0 ≤ i → 0 ≤ r ∧ r < n → (∀ j, 0 ≤ j → j < i → V 25 0 r ≤ V 25 0 j) →
    ∃ s, (0 ≤ s ∧ s < n) ∧ (∀ j, 0 ≤ j → j < n → V 25 0 s ≤ V 25 0 j) ∧ RUN (d + 1) 35 (6, [sR 24 0, sI n, sI r, sI i], []) (HM q V) = rV (HM q (swpV V s (n - 1))) := by
  intro k
  induction k with
  | zero =>
    intro i r hi h0 hr hm
    refine ⟨r, hr, fun j h1 h2 => hm j h1 (by omega), ?_⟩
    rw [g_35_6 p (by constructor <;> omega) (fun _ => by omega) (fun c => absurd (by omega) c) (fun _ => by omega) (fun c => absurd (by omega) c) (fun c => absurd (by omega) c)]
    exact cif_pos (by omega)
  | succ k ih =>
    intro i r hi h0 hr hm
    rw [g_35_6 p (by constructor <;> omega) (fun _ => by omega) (fun c => by omega) (fun _ => by omega) (fun _ => hR r hr.1 hr.2) (fun _ => hR i h0 (by omega)), cif_neg (by omega)]
    by_cases c : V 25 0 r ≤ V 25 0 i
    · obtain ⟨s, s1, s2, s3⟩ := ih (i + 1) r (by omega) (by omega) hr (fun j h1 h2 => by
        by_cases e : j = i
        · rw [e]; exact c
        · exact hm j h1 (by omega))
      exact ⟨s, s1, s2, (cif_pos c).trans s3⟩
    · obtain ⟨s, s1, s2, s3⟩ := ih (i + 1) i (by omega) (by omega) (by omega) (fun j h1 h2 => by
        by_cases e : j = i
        · rw [e]; exact Int.le_refl _
        · have := hm j h1 (by omega)
          omega)
      exact ⟨s, s1, s2, (cif_neg c).trans s3⟩
theorem s_35 {d : Nat} {q : QQ} {V : VV} {n : Int} (p : 1 ≤ n ∧ n < 17) (hR : ∀ j, 0 ≤ j → j < n → R32 (V 25 0 j)) : ∃ s, (0 ≤ s ∧ s < n) ∧ (∀ j, 0 ≤ j → j < n → V 25 0 s ≤ V 25 0 j) ∧ RUN (d + 1) 35 (am_en 35 [aR 24 0, aI (iI n)]) (HM q V) = rV (HM q (swpV V s (n - 1))) := by
  obtain ⟨s, s1, s2, s3⟩ := rarest_go (d := d) (q := q) p hR n.toNat 0 (n - 1) (by omega) (by omega) (by omega) (fun j h1 h2 => by omega)
  exact ⟨s, s1, s2, (g_35_0 p).trans s3⟩
theorem most_go {d : Nat} {q : QQ} {V : VV} {n : Int} (p : 1 ≤ n ∧ n < 17) (hR : ∀ j, 0 ≤ j → j < n → R32 (V 25 0 j)) : ∀ (k : Nat) (i r : Int), i + k = n → 0 ≤ i → 0 ≤ r ∧ r < n → (∀ j, 0 ≤ j → j < i → V 25 0 j ≤ V 25 0 r) →
    ∃ s, (0 ≤ s ∧ s < n) ∧ (∀ j, 0 ≤ j → j < n → V 25 0 j ≤ V 25 0 s) ∧ RUN (d + 1) 39 (6, [sR 24 0, sI n, sI r, sI i], []) (HM q V) = rV (HM q (swpV V s (n - 1))) := by
  intro k
  induction k with
  | zero =>
    intro i r hi h0 hr hm
    refine ⟨r, hr, fun j h1 h2 => hm j h1 (by omega), ?_⟩
    rw [g_39_6 p (by constructor <;> omega) (fun _ => by omega) (fun c => absurd (by omega) c) (fun _ => by omega) (fun c => absurd (by omega) c) (fun c => absurd (by omega) c)]
    exact cif_pos (by omega)
  | succ k ih =>
    intro i r hi h0 hr hm
    rw [g_39_6 p (by constructor <;> omega) (fun _ => by omega) (fun c => by omega) (fun _ => by omega) (fun _ => hR i h0 (by omega)) (fun _ => hR r hr.1 hr.2), cif_neg (by omega)]
    by_cases c : V 25 0 i ≤ V 25 0 r
    · obtain ⟨s, s1, s2, s3⟩ := ih (i + 1) r (by omega) (by omega) hr (fun j h1 h2 => by
        by_cases e : j = i
        · rw [e]; exact c
        · exact hm j h1 (by omega))
      exact ⟨s, s1, s2, (cif_pos c).trans s3⟩
    · obtain ⟨s, s1, s2, s3⟩ := ih (i + 1) i (by omega) (by omega) (by omega) (fun j h1 h2 => by
        by_cases e : j = i
        · rw [e]; exact Int.le_refl _
        · have := hm j h1 (by omega)
          omega)
      exact ⟨s, s1, s2, (cif_neg c).trans s3⟩
theorem s_39 {d : Nat} {q : QQ} {V : VV} {n : Int} (p : 1 ≤ n ∧ n < 17) (hR : ∀ j, 0 ≤ j → j < n → R32 (V 25 0 j)) : ∃ s, (0 ≤ s ∧ s < n) ∧ (∀ j, 0 ≤ j → j < n → V 25 0 j ≤ V 25 0 s) ∧ RUN (d + 1) 39 (am_en 39 [aR 24 0, aI (iI n)]) (HM q V) = rV (HM q (swpV V s (n - 1))) := by
  obtain ⟨s, s1, s2, s3⟩ := most_go (d := d) (q := q) p hR n.toNat 0 (n - 1) (by omega) (by omega) (by omega) (fun j h1 h2 => by omega)
  exact ⟨s, s1, s2, (g_39_0 p).trans s3⟩
/-- the groups are no less than 0, their sum within bounds -/
def gok (l : List Int) : Prop := (∀ x, x ∈ l → 0 ≤ x) ∧ sumL l ≤ 16000000
theorem gok_perm {l m : List Int} (h : l.Perm m) (g : gok l) : gok m := ⟨fun x hx => g.1 x (h.mem_iff.2 hx), by rw [← sumL_perm h]; exact g.2⟩
theorem gok_R {f : Int → Int} {n : Nat} (g : gok (lst f n)) (j : Int) (h0 : 0 ≤ j) (h1 : j < n) : R32 (f j) := by
  have hm : f j ∈ lst f n := mem_lst.2 ⟨j, h0, h1, rfl⟩
  have h2 := g.1 _ hm
  have h3 := sumL_mem g.1 hm
  have h4 := g.2
  constructor <;> omega
theorem gok_tail {x : Int} {l : List Int} (g : gok (x :: l)) : gok l := by
  have h1 := g.1 x (List.mem_cons_self ..)
  have h2 : x + sumL l ≤ 16000000 := g.2
  exact ⟨fun y hy => g.1 y (List.mem_cons_of_mem _ hy), by omega⟩
theorem gok_join {a b : Int} {l : List Int} (g : gok (a :: b :: l)) : gok ((a + b) :: l) := by
  have h1 := g.1 a (List.mem_cons_self ..)
  have h2 := g.1 b (List.mem_cons_of_mem _ (List.mem_cons_self ..))
  have h3 : a + (b + sumL l) ≤ 16000000 := g.2
  refine ⟨fun y hy => ?_, ?_⟩
  · rcases List.mem_cons.1 hy with e | e
    · omega
    · exact g.1 y (List.mem_cons_of_mem _ (List.mem_cons_of_mem _ e))
  · show (a + b) + sumL l ≤ _
    omega
theorem swp_perm {V : VV} {r : Int} {m : Nat} (h : 0 ≤ r ∧ r < (m + 1 : Nat)) : (lst (swpV V r m 25 0) (m + 1)).Perm (lst (V 25 0) (m + 1)) := by
  rw [swpV_25]
  exact lst_swap h.1 (by omega)
theorem swp_last {V : VV} {r e : Int} : swpV V r e 25 0 e = V 25 0 r := by
  rw [swpV_25]
  exact setF_same
theorem lst_last {f : Int → Int} {m : Nat} {v : Int} : lst (setF f m v) (m + 1) = v :: lst f m := by
  show setF f m v m :: lst (setF f m v) m = _
  rw [setF_same, lst_congr (g := f) (fun j h1 h2 => setF_ne (by omega))]
theorem join_go {d : Nat} {q : QQ} : ∀ (m : Nat) (V : VV) (c : Int), m < 16 → rowok V → gok (lst (V 25 0) (m + 1)) →
    ∃ h W, offC V W ∧ HC m (lst (V 25 0) (m + 1)) h ∧ RUN (d + 2) 33 (26, [sR 24 0, sI c, sI ((m + 1 : Nat) : Int)], []) (HM q V) = rI (c + h) (HM q W) := by
  intro m
  induction m with
  | zero =>
    intro V c _ rk g
    refine ⟨0, V, offC_refl V, ⟨by rw [lst_len]; omega, rfl⟩, ?_⟩
    rw [g_33_26 rk (by decide), Int.add_zero]
    exact cif_pos (by decide)
  | succ m ih =>
    intro V c hm rk g
    obtain ⟨r, r1, r2, r3⟩ := s_35 (d := d) (q := q) (V := V) (n := ((m + 1 + 1 : Nat) : Int)) (by omega) (gok_R g)
    have x1 : ((m + 1 + 1 : Nat) : Int) - 1 = ((m + 1 : Nat) : Int) := by omega
    rw [x1] at r3
    have P1 := swp_perm (V := V) (r := r) (m := m + 1) r1
    have o1 := offC_swp V r ((m + 1 : Nat) : Int)
    have hl1 := swp_last (V := V) (r := r) (e := ((m + 1 : Nat) : Int))
    generalize hV1 : swpV V r ((m + 1 : Nat) : Int) = V1 at r3 P1 o1 hl1
    have g1 := gok_perm P1.symm g
    have g1' : gok (V1 25 0 ((m + 1 : Nat) : Int) :: lst (V1 25 0) (m + 1)) := g1
    obtain ⟨s, s1, s2, s3⟩ := s_35 (d := d) (q := q) (V := V1) (n := ((m + 1 : Nat) : Int)) (by omega) (gok_R (gok_tail g1'))
    have x2 : ((m + 1 : Nat) : Int) - 1 = (m : Int) := by omega
    rw [x2] at s3
    have P2 := swp_perm (V := V1) (r := s) (m := m) s1
    have o2 := offC_swp V1 s (m : Int)
    have hl2 := swp_last (V := V1) (r := s) (e := (m : Int))
    have hl3 : swpV V1 s (m : Int) 25 0 ((m + 1 : Nat) : Int) = V1 25 0 ((m + 1 : Nat) : Int) := by
      rw [swpV_25, setF_ne (by omega), setF_ne (by omega)]
    generalize hV2 : swpV V1 s (m : Int) = V2 at s3 P2 o2 hl2 hl3
    have PP : (lst (V 25 0) (m + 1 + 1)).Perm (V2 25 0 ((m + 1 : Nat) : Int) :: V2 25 0 m :: lst (V2 25 0) m) := by
      rw [hl3]
      exact P1.symm.trans (P2.symm.cons _)
    have gg := gok_perm PP g
    have o3 := offC_trans o1 o2
    have o4 : offC V2 (upV V2 25 0 m (V2 25 0 m + V2 25 0 ((m + 1 : Nat) : Int))) := offC_up (by decide)
    have eL : lst (upV V2 25 0 m (V2 25 0 m + V2 25 0 ((m + 1 : Nat) : Int)) 25 0) (m + 1) = (V2 25 0 ((m + 1 : Nat) : Int) + V2 25 0 m) :: lst (V2 25 0) m := by
      rw [Int.add_comm (V2 25 0 ((m + 1 : Nat) : Int))]
      exact lst_last
    obtain ⟨h, W, w1, w2, w3⟩ := ih (upV V2 25 0 m (V2 25 0 m + V2 25 0 ((m + 1 : Nat) : Int))) (c + (V2 25 0 m + V2 25 0 ((m + 1 : Nat) : Int))) (by omega) (rowok_off (offC_trans o3 o4) rk) (by rw [eL]; exact gok_join gg)
    rw [eL] at w2
    refine ⟨V2 25 0 ((m + 1 : Nat) : Int) + V2 25 0 m + h, W, offC_trans o3 (offC_trans o4 w1), ⟨_, _, _, _, PP, ?_, ?_, w2, rfl⟩, ?_⟩
    · rw [hl3, hl1, hl2]
      have := P1.mem_iff.1 (show V1 25 0 s ∈ lst (V1 25 0) (m + 1 + 1) from mem_lst.2 ⟨s, s1.1, by omega, rfl⟩)
      obtain ⟨j, j1, j2, j3⟩ := mem_lst.1 this
      rw [← j3]
      exact r2 j j1 j2
    · intro x hx
      rw [hl2]
      have := P2.mem_iff.1 (show x ∈ V2 25 0 m :: lst (V2 25 0) m from List.mem_cons_of_mem _ hx)
      obtain ⟨j, j1, j2, j3⟩ := mem_lst.1 this
      rw [← j3]
      exact s2 j j1 j2
    · rw [g_33_26 rk (by constructor <;> omega), cif_neg (by omega), g_33_33 rk r3 (qle_refl _), x1, g_33_40 (rowok_off o1 rk) s3 (qle_refl _) (by omega) (by omega)]
      rw [show ((m + 1 + 1 : Nat) : Int) - 2 = (m : Int) by omega, show ((m + 1 + 1 : Nat) : Int) + -1 = ((m + 1 : Nat) : Int) by omega, x1]
      rw [show c + (V2 25 0 ((m + 1 : Nat) : Int) + V2 25 0 m + h) = c + (V2 25 0 m + V2 25 0 ((m + 1 : Nat) : Int)) + h by omega]
      refine Eq.trans ?_ w3
      rw [show upV V2 25 0 m (V2 25 0 m + V2 25 0 ((m + 1 : Nat) : Int)) 25 0 m = V2 25 0 m + V2 25 0 ((m + 1 : Nat) : Int) from if_pos rfl]
theorem gok_pos {V : VV} (rk : rowok V) : gok (posL (V 10 0) 16) := by
  refine ⟨fun x hx => ?_, ?_⟩
  · have := posL_mem hx
    omega
  · have := posL_sum (f := V 10 0) (n := 16) (B := 1000000) (fun i h1 h2 => (rk_10 rk (by omega)).2) (by decide)
    omega
theorem s_33 {d : Nat} {q : QQ} {V : VV} (rk : rowok V) : ∃ c W, offC V W ∧ bcost (posL (V 10 0) 16) c ∧ RUN (d + 2) 33 (am_en 33 [aR 24 0]) (HM q V) = rI c (HM q W) := by
  obtain ⟨W, w1, w2, w3, w4⟩ := s_34 (d := d + 1) (q := q) rk
  have hg := gok_pos rk
  have hl := posL_len (f := V 10 0) (n := 16)
  generalize posL (V 10 0) 16 = L at w2 w3 hg hl
  rw [g_33_0 rk, g_33_1 rk w4 (qle_refl _) (by rw [w2]; constructor <;> omega)]
  by_cases c1 : L.length = 1
  · refine ⟨W 25 0 0, W, w1, ⟨fun _ => ?_, fun z => absurd c1 z⟩, cif_pos (by omega)⟩
    rw [← w3, c1]
    rfl
  · rw [cif_neg (by omega)]
    cases hk : L.length with
    | zero =>
      refine ⟨0, W, w1, ⟨fun z => absurd z c1, fun _ => ?_⟩, ?_⟩
      · rw [hk]
        exact ⟨by omega, rfl⟩
      · rw [w2, hk, g_33_26 (rowok_off w1 rk) (by decide)]
        exact cif_pos (by decide)
    | succ m =>
      rw [hk] at w2 w3
      obtain ⟨h, U, u1, u2, u3⟩ := join_go (d := d) (q := q) m W 0 (by omega) (rowok_off w1 rk) (by rw [w3]; exact hg)
      rw [w3] at u2
      refine ⟨h, U, offC_trans w1 u1, ⟨fun z => absurd z c1, fun _ => ?_⟩, ?_⟩
      · rw [hk]
        exact u2
      · rw [w2, u3, Int.zero_add]
