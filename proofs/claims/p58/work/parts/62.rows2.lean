/-! the cost of the code, by two rows: the order, and the whole -/
theorem lst_more {f g : Int → Int} {n k : Nat} (h : ∀ j : Int, (n : Int) ≤ j → f j = g j) (hp : (lst f n).Perm (lst g n)) : (lst f (n + k)).Perm (lst g (n + k)) := by
  induction k with
  | zero => exact hp
  | succ k ih =>
    show (f (n + k : Nat) :: lst f (n + k)).Perm (g (n + k : Nat) :: lst g (n + k))
    rw [h _ (by omega)]
    exact ih.cons _
theorem sort_go {d : Nat} {q : QQ} {n : Nat} : ∀ (m : Nat) (V : VV) (l2 l3 : Option AV), m + 1 ≤ n → n ≤ 16 → rowok V → gok (lst (V 25 0) n) → (∀ i j : Int, 0 ≤ j → j ≤ i → (m + 1 : Nat) ≤ i → i < n → V 25 0 j ≤ V 25 0 i) →
    ∃ W, offC V W ∧ W 24 0 = V 24 0 ∧ (lst (W 25 0) n).Perm (lst (V 25 0) n) ∧ (∀ i j : Int, 0 ≤ j → j ≤ i → i < n → W 25 0 j ≤ W 25 0 i) ∧
      RUN (d + 2) 38 (24, [sR 24 0, sI ((m + 1 : Nat) : Int), l2, l3], []) (HM q V) = RUN (d + 2) 38 (59, [sR 24 0, sI 0, sI 1, l3], []) (HM q (upV (upV (upV W 24 0 4 0) 24 0 5 0) 24 0 6 0)) := by
  intro m
  induction m with
  | zero =>
    intro V l2 l3 hn _ rk g hs
    refine ⟨V, offC_refl V, rfl, List.Perm.refl _, fun i j h1 h2 h3 => ?_, ?_⟩
    · by_cases e : i = 0
      · rw [show j = i by omega]
        exact Int.le_refl _
      · exact hs i j h1 h2 (by omega) h3
    · rw [g_38_24 rk (by decide)]
      exact cif_pos (by decide)
  | succ m ih =>
    intro V l2 l3 hn hn2 rk g hs
    obtain ⟨r, r1, r2, r3⟩ := s_39 (d := d) (q := q) (V := V) (n := ((m + 1 + 1 : Nat) : Int)) (by omega) (fun j h0 h1 => gok_R g j h0 (by omega))
    have x1 : ((m + 1 + 1 : Nat) : Int) - 1 = ((m + 1 : Nat) : Int) := by omega
    rw [x1] at r3
    have P1 := swp_perm (V := V) (r := r) (m := m + 1) r1
    have o1 := offC_swp V r ((m + 1 : Nat) : Int)
    have hl1 := swp_last (V := V) (r := r) (e := ((m + 1 : Nat) : Int))
    have c24 : swpV V r ((m + 1 : Nat) : Int) 24 0 = V 24 0 := rfl
    have far : ∀ j : Int, ((m + 1 + 1 : Nat) : Int) ≤ j → swpV V r ((m + 1 : Nat) : Int) 25 0 j = V 25 0 j := by
      intro j hj
      rw [swpV_25, setF_ne (by omega), setF_ne (by omega)]
    generalize swpV V r ((m + 1 : Nat) : Int) = V1 at r3 P1 o1 hl1 c24 far
    have P2 : (lst (V1 25 0) n).Perm (lst (V 25 0) n) := by
      have := lst_more (k := n - (m + 1 + 1)) far P1
      rw [show m + 1 + 1 + (n - (m + 1 + 1)) = n by omega] at this
      exact this
    have inP : ∀ j : Int, 0 ≤ j → j < (m + 1 + 1 : Nat) → ∃ i : Int, 0 ≤ i ∧ i < (m + 1 + 1 : Nat) ∧ V 25 0 i = V1 25 0 j := by
      intro j h0 h1
      exact mem_lst.1 (P1.mem_iff.1 (mem_lst.2 ⟨j, h0, h1, rfl⟩))
    obtain ⟨W, w1, w2, w3, w4, w5⟩ := ih V1 l2 l3 (by omega) hn2 (rowok_off o1 rk) (gok_perm P2.symm g) (by
      intro i j h1 h2 h3 h4
      by_cases e : i = ((m + 1 : Nat) : Int)
      · rw [e, hl1]
        obtain ⟨k, k1, k2, k3⟩ := inP j h1 (by omega)
        rw [← k3]
        exact r2 k k1 k2
      · rw [far i (by omega)]
        by_cases e2 : j < ((m + 1 + 1 : Nat) : Int)
        · obtain ⟨k, k1, k2, k3⟩ := inP j h1 e2
          rw [← k3]
          exact hs i k k1 (by omega) (by omega) h4
        · rw [far j (by omega)]
          exact hs i j h1 h2 (by omega) h4)
    refine ⟨W, offC_trans o1 w1, w2.trans c24, w3.trans P2, w4, ?_⟩
    rw [g_38_24 rk (by constructor <;> omega), cif_neg (by omega), g_38_31 rk r3 (qle_refl _), show ((m + 1 + 1 : Nat) : Int) + -1 = ((m + 1 : Nat) : Int) by omega]
    exact w5
theorem s_38 {d : Nat} {q : QQ} {V : VV} (rk : rowok V) : ∃ c W, offC V W ∧ bcost (posL (V 10 0) 16) c ∧ RUN (d + 2) 38 (am_en 38 [aR 24 0]) (HM q V) = rI c (HM q W) := by
  obtain ⟨W, w1, w2, w3, w4⟩ := s_34 (d := d + 1) (q := q) rk
  have hg := gok_pos rk
  have hl := posL_len (f := V 10 0) (n := 16)
  generalize posL (V 10 0) 16 = L at w2 w3 hg hl
  rw [g_38_0 rk, g_38_1 rk w4 (qle_refl _) (by rw [w2]; constructor <;> omega)]
  by_cases c1 : L.length = 1
  · refine ⟨W 25 0 0, W, w1, ⟨fun _ => ?_, fun z => absurd c1 z⟩, cif_pos (by omega)⟩
    rw [← w3, c1]
    rfl
  · rw [cif_neg (by omega), w2]
    cases hk : L.length with
    | zero =>
      have o2 : offC W (upV (upV (upV W 24 0 4 0) 24 0 5 0) 24 0 6 0) := offC_trans (offC_trans (offC_up (by decide)) (offC_up (by decide))) (offC_up (by decide))
      refine ⟨0, _, offC_trans w1 o2, ⟨fun z => absurd z c1, fun _ => ?_⟩, ?_⟩
      · rw [hk]
        exact ⟨by omega, rfl⟩
      · have n3 : (upV (upV (upV W 24 0 4 0) 24 0 5 0) 24 0 6 0) 24 0 3 = 0 := by
          show W 24 0 3 = 0
          rw [w2, hk]
          rfl
        rw [g_38_24 (rowok_off w1 rk) (by decide), cif_pos (by decide), g_38_59 (rowok_off (offC_trans w1 o2) rk) (by rw [n3]; decide) (by decide), n3]
        exact cif_pos (by decide)
    | succ m =>
      rw [hk] at w2 w3
      obtain ⟨U, u1, u2, u3, u4, u5⟩ := sort_go (d := d) (q := q) (n := m + 1) m W none none (Nat.le_refl _) (by omega) (rowok_off w1 rk) (by rw [w3]; exact hg) (fun i j _ _ h3 h4 => absurd h3 (by omega))
      rw [w3] at u3
      have o2 : offC U (upV (upV (upV U 24 0 4 0) 24 0 5 0) 24 0 6 0) := offC_trans (offC_trans (offC_up (by decide)) (offC_up (by decide))) (offC_up (by decide))
      have n3 : U 24 0 3 = ((m + 1 : Nat) : Int) := by rw [u2]; exact w2
      have PS : (sg (U 25 0) 0 (m + 1)).Perm L := sg_lst.trans u3
      have hq : QS (upV (upV (upV U 24 0 4 0) 24 0 5 0) 24 0 6 0) (1 - 1) 0 (sg (U 25 0) 0 (m + 1)) := by
        refine ⟨0, 0, m + 1, 0, rfl, rfl, ?_, rfl, by omega, by omega, by omega, by omega, by omega, fun i j h1 h2 h3 => u4 j i h1 h2 (by omega), fun i j _ _ _ => by omega, fun j _ _ => by omega, ?_⟩
        · show U 24 0 3 = _
          rw [n3]
          omega
        · show _ = sg (U 25 0) 0 (m + 1) ++ []
          rw [List.append_nil]
      obtain ⟨h, Z, z1, z2, z3⟩ := two_go (d := d) (q := q) (l3 := none) m (upV (upV (upV U 24 0 4 0) 24 0 5 0) 24 0 6 0) 0 1 0 0 (sg (U 25 0) 0 (m + 1)) none (rowok_off (offC_trans (offC_trans w1 u1) o2) rk) hq (gok_perm PS.symm hg) sg_len (by
        show U 24 0 3 = _
        rw [n3]
        omega) (by decide) (by omega) (by decide) (fun x hx => hg.1 x (PS.mem_iff.1 hx)) (by decide)
      refine ⟨h, Z, offC_trans (offC_trans (offC_trans w1 u1) o2) z1, ⟨fun z => absurd z c1, fun _ => ?_⟩, ?_⟩
      · rw [hk]
        exact HC_perm PS z2
      · rw [u5, z3, Int.zero_add]
