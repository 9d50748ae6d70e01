/-! the law's codes: joined by the law's own sorting -/
/-- as adv, where the later cells of long numbers may have been written -/
def advJ (m s n0 : Nat) (q q' : QQ) : Prop := (q'.1.1 = q.1.1 ∧ q'.1.2.1 = q.1.2.1 ∧ ∀ x, x < n0 → q'.1.2.2 x = q.1.2.2 x) ∧ (q'.2.2.2 = q.2.2.2 ∧ ∀ a b, (¬ a = 46 ∨ b < n0) → q'.2.2.1 a b = q.2.2.1 a b) ∧ (q.2.1.1 ≤ q'.2.1.1 ∧ q'.2.1.1 ≤ q.2.1.1 + m) ∧ (q.2.1.2 ≤ q'.2.1.2 ∧ q'.2.1.2 ≤ q.2.1.2 + s)
theorem adv.toJ {m s n0 : Nat} {q q' : QQ} (h : adv m s n0 q q') : advJ m s n0 q q' := ⟨h.1, ⟨by rw [h.2.1], fun a b _ => by rw [h.2.1]⟩, h.2.2.1, h.2.2.2⟩
theorem advJ.trans {m s m' s' n0 : Nat} {q q' q2 : QQ} (h : advJ m s n0 q q') (k : advJ m' s' n0 q' q2) : advJ (m + m') (s + s') n0 q q2 := by
  obtain ⟨⟨a1, a2, a3⟩, ⟨b1, b2⟩, ⟨c1, c2⟩, e1, e2⟩ := h
  obtain ⟨⟨a1', a2', a3'⟩, ⟨b1', b2'⟩, ⟨c1', c2'⟩, e1', e2'⟩ := k
  exact ⟨⟨a1'.trans a1, a2'.trans a2, fun x hx => (a3' x hx).trans (a3 x hx)⟩, ⟨b1'.trans b1, fun a b z => (b2' a b z).trans (b2 a b z)⟩, ⟨by omega, by omega⟩, by omega, by omega⟩
theorem advJ.mono {m s m' s' n0 n1 : Nat} {q q' : QQ} (h : advJ m s n0 q q') (hm : m ≤ m') (hs : s ≤ s') (hn : n1 ≤ n0) : advJ m' s' n1 q q' :=
  ⟨⟨h.1.1, h.1.2.1, fun x hx => h.1.2.2 x (by omega)⟩, ⟨h.2.1.1, fun a b z => h.2.1.2 a b (by omega)⟩, ⟨h.2.2.1.1, by have := h.2.2.1.2; omega⟩, h.2.2.2.1, by have := h.2.2.2.2; omega⟩
theorem advJ.qle {m s n0 : Nat} {q q' : QQ} (h : advJ m s n0 q q') : qle q q' := ⟨h.2.2.1.1, h.2.2.2.1⟩
theorem newJ_adv {q : QQ} {N : Nat} : advJ 1 N q.2.1.1 q (newJ q N) := by
  refine ⟨newQ_adv (q := q) (s := some (Sum.inl (2, N, fun _ => aN))) (sl := N) |>.1, ⟨rfl, fun a b z => ?_⟩, ⟨Nat.le_add_right _ _, Nat.le_refl _⟩, Nat.le_add_right _ _, Nat.le_refl _⟩
  show upA q.2.2.1 46 q.2.1.1 (fun _ => 0) a b = _
  unfold upA
  rw [if_neg (fun y => by omega)]
theorem newJ_at {q : QQ} {N : Nat} : (newJ q N).1.2.2 q.2.1.1 = some (Sum.inl (2, N, fun _ => aN)) := newQ_at (sl := N)
/-- only the cell b of long numbers was written -/
def JO (b : Nat) (q q' : QQ) : Prop := q'.1 = q.1 ∧ q'.2.1 = q.2.1 ∧ q'.2.2.2 = q.2.2.2 ∧ ∀ a c, (¬ a = 46 ∨ ¬ c = b) → q'.2.2.1 a c = q.2.2.1 a c
theorem JO.refl {b : Nat} (q : QQ) : JO b q q := ⟨rfl, rfl, rfl, fun _ _ _ => rfl⟩
theorem JO.trans {b : Nat} {q q' q2 : QQ} (h : JO b q q') (k : JO b q' q2) : JO b q q2 := ⟨k.1.trans h.1, k.2.1.trans h.2.1, k.2.2.1.trans h.2.2.1, fun a c z => (k.2.2.2 a c z).trans (h.2.2.2 a c z)⟩
theorem JO.st {b : Nat} {q : QQ} {i v : Int} : JO b q (stJ q b i v) := by
  refine ⟨rfl, rfl, rfl, fun a c z => funext fun j => ?_⟩
  show upJ q.2.2.1 46 b i.toNat (lI v) a c j = _
  unfold upJ
  rw [if_neg (fun y => by omega)]
theorem JO.adv {b n0 : Nat} {q q' : QQ} (h : JO b q q') (hb : n0 ≤ b) : advJ 0 0 n0 q q' := by
  refine ⟨⟨by rw [h.1], by rw [h.1], fun x _ => by rw [h.1]⟩, ⟨h.2.2.1, fun a c z => h.2.2.2 a c (by omega)⟩, ⟨by rw [h.2.1]; exact Nat.le_refl _, by rw [h.2.1]; exact Nat.le_refl _⟩, by rw [h.2.1]; exact Nat.le_refl _, by rw [h.2.1]; exact Nat.le_refl _⟩
theorem jj_R (q : QQ) (b : Nat) (i : Int) : R64 (jj q b i) := ⟨Int64.le_toInt _, Int64.toInt_lt _⟩
theorem jj_sw {q : QQ} {b : Nat} {k j : Int} (hk : 0 ≤ k) (hj : 0 ≤ j) : jj (stJ (stJ q b (k + 1) (jj q b k)) b k (jj q b (k + 1))) b j = if j = k then jj q b (k + 1) else if j = k + 1 then jj q b k else jj q b j := by
  rw [jj_st hk hj (jj_R _ _ _)]
  by_cases c : j = k
  · rw [if_pos c, if_pos c]
  · rw [if_neg c, if_neg c, jj_st (by omega) hj (jj_R _ _ _)]
theorem lst_adj {f : Int → Int} {k : Int} {n : Nat} (h0 : 0 ≤ k) (h : k + 1 < n) : (lst (setF (setF f (k + 1) (f k)) k (f (k + 1))) n).Perm (lst f n) := by
  have p1 := lst_set (f := f) (i := k + 1) (v := f k) (n := n) (by omega) h
  have p2 := lst_set (f := setF f (k + 1) (f k)) (i := k) (v := f (k + 1)) (n := n) h0 (by omega)
  rw [setF_ne (show k ≠ k + 1 by omega)] at p2
  exact (p2.trans p1).cons_inv
theorem posL_sumI {f : Int → Int} {n : Nat} (h : ∀ i : Int, 0 ≤ i → i < n → 0 ≤ f i) : sumL (posL f n) = sumI f n := by
  induction n with
  | zero => rfl
  | succ n ih =>
    have e : sumI f ((n + 1 : Nat) : Int) = sumI f (n : Int) + f n := sumI_succ f (Int.ofNat_nonneg n)
    rw [e, ← ih (fun i h1 h2 => h i h1 (by omega))]
    have := h n (by omega) (by omega)
    show sumL (cif (f n ≤ 0) (posL f n) (f n :: posL f n)) = _
    by_cases c : f n ≤ 0
    · rw [cif_pos c]
      omega
    · rw [cif_neg c]
      show f n + sumL (posL f n) = _
      omega
section
variable {V : VV} {d b : Nat}
/-- in order up to i, but for the pair that ends at k -/
def DS (g : Int → Int) (i k : Int) : Prop := (∀ j, 0 ≤ j → j + 1 ≤ i → ¬ j + 1 = k → g (j + 1) ≤ g j) ∧ (1 ≤ k → k + 1 ≤ i → g (k + 1) ≤ g (k - 1))
def SD (g : Int → Int) (i : Int) : Prop := ∀ j, 0 ≤ j → j + 1 ≤ i → g (j + 1) ≤ g j
theorem co_in (rk : rowok V) {n : Nat} {c0 i : Int} (hn : n ≤ 16) (hi : i < n) (l2 l3 l5 : Option AV) : ∀ (k : Nat) (q : QQ) (l9 l10 : Option AV), q.1.2.2 b = some (Sum.inl (2, 40, fun _ => aN)) → (k : Int) ≤ i → DS (jj q b) i k →
    ∃ q' l8' l9' l10', RUN (d + 4) 348 (93, [sR 1 0, sR 46 b, l2, l3, sL c0, l5, sI n, sI i, sI k, l9, l10], []) (HM q V) = RUN (d + 4) 348 (82, [sR 1 0, sR 46 b, l2, l3, sL c0, l5, sI n, sI (i + 1), l8', l9', l10'], []) (HM q' V) ∧ JO b q q' ∧ (lst (jj q' b) n).Perm (lst (jj q b) n) ∧ SD (jj q' b) i := by
  intro k
  induction k with
  | zero =>
    intro q l9 l10 hs hk hD
    refine ⟨q, sI ((0 : Nat) : Int), l9, l10, ?_, JO.refl q, List.Perm.refl _, fun j j1 j2 => hD.1 j j1 j2 (by omega)⟩
    refine Eq.trans (g_348_93 hs rk (by omega) (fun z => absurd (by omega) z) (fun z => absurd (by omega) z)) ?_
    exact cif_pos (by omega)
  | succ k ih =>
    intro q l9 l10 hs hk hD
    have e := g_348_93 (d := d) (q := q) (V := V) (b1 := b) (l2 := l2) (l3 := l3) (x4 := c0) (l5 := l5) (x6 := n) (x7 := i) (x8 := ((k + 1 : Nat) : Int)) (l9 := l9) (l10 := l10) hs rk (by omega) (fun _ => by omega) (fun _ => by omega)
    rw [cif_neg (by omega), show ((k + 1 : Nat) : Int) - 1 = k by omega, show ((k + 1 : Nat) : Int) + (-1) = k by omega] at e
    by_cases c : lcF (jj q b ((k + 1 : Nat) : Int)) (jj q b k) ≤ 0
    · rw [cif_pos c] at e
      have c' := (lcF_le (jj_R _ _ _) (jj_R _ _ _)).mp c
      refine ⟨q, _, _, _, e, JO.refl q, List.Perm.refl _, fun j j1 j2 => ?_⟩
      by_cases ej : j = (k : Int)
      · subst ej
        exact c'
      · exact hD.1 j j1 j2 (by omega)
    · rw [cif_neg c] at e
      have c' : ¬ jj q b ((k + 1 : Nat) : Int) ≤ jj q b k := fun z => c ((lcF_le (jj_R _ _ _) (jj_R _ _ _)).mpr z)
      have ek : ((k + 1 : Nat) : Int) = (k : Int) + 1 := by omega
      rw [ek] at e c' hD hk
      have hsw : ∀ j, 0 ≤ j → jj (stJ (stJ q b ((k : Int) + 1) (jj q b k)) b k (jj q b ((k : Int) + 1))) b j = if j = (k : Int) then jj q b ((k : Int) + 1) else if j = (k : Int) + 1 then jj q b k else jj q b j := fun j hj => jj_sw (by omega) hj
      have jo : JO b q (stJ (stJ q b ((k : Int) + 1) (jj q b k)) b k (jj q b ((k : Int) + 1))) := JO.st.trans JO.st
      have hpm : (lst (jj (stJ (stJ q b ((k : Int) + 1) (jj q b k)) b k (jj q b ((k : Int) + 1))) b) n).Perm (lst (jj q b) n) := by
        rw [lst_congr (g := setF (setF (jj q b) ((k : Int) + 1) (jj q b k)) k (jj q b ((k : Int) + 1))) (fun j j1 j2 => by
          rw [hsw j j1]
          unfold setF
          rfl)]
        exact lst_adj (by omega) (by omega)
      have hD' : DS (jj (stJ (stJ q b ((k : Int) + 1) (jj q b k)) b k (jj q b ((k : Int) + 1))) b) i k := by
        refine ⟨fun j j1 j2 j3 => ?_, fun k1 k2 => ?_⟩
        · rw [hsw _ (by omega), hsw j j1]
          by_cases e1 : j = (k : Int)
          · subst e1
            rw [if_neg (by omega), if_pos rfl, if_pos rfl]
            omega
          · by_cases e2 : j = (k : Int) + 1
            · subst e2
              rw [if_neg (by omega), if_neg (by omega), if_neg (by omega), if_pos rfl]
              have := hD.2 (by omega) (by omega)
              rw [show (k : Int) + 1 - 1 = k by omega] at this
              exact this
            · rw [if_neg (by omega), if_neg (by omega), if_neg e1, if_neg e2]
              exact hD.1 j j1 j2 (by omega)
        · rw [hsw _ (by omega), hsw _ (by omega), if_neg (by omega), if_pos rfl, if_neg (by omega), if_neg (by omega)]
          have := hD.1 ((k : Int) - 1) (by omega) (by omega) (by omega)
          rw [show (k : Int) - 1 + 1 = k by omega] at this
          exact this
      obtain ⟨q', a8, a9, a10, e2, j2, p2, s2⟩ := ih (stJ (stJ q b ((k : Int) + 1) (jj q b k)) b k (jj q b ((k : Int) + 1))) (sL (jj q b ((k : Int) + 1))) none hs (by omega) hD'
      refine ⟨q', a8, a9, a10, ?_, jo.trans j2, p2.trans hpm, s2⟩
      rw [ek]
      exact e.trans e2
theorem co_out (rk : rowok V) {n : Nat} {c0 : Int} (hn : n ≤ 16) (l2 l3 l5 : Option AV) : ∀ (r : Nat) (i : Int) (q : QQ) (l8 l9 l10 : Option AV), i + r = n → 1 ≤ i → q.1.2.2 b = some (Sum.inl (2, 40, fun _ => aN)) → SD (jj q b) (i - 1) →
    ∃ q' l8' l9' l10', RUN (d + 4) 348 (82, [sR 1 0, sR 46 b, l2, l3, sL c0, l5, sI n, sI i, l8, l9, l10], []) (HM q V) = RUN (d + 4) 348 (82, [sR 1 0, sR 46 b, l2, l3, sL c0, l5, sI n, sI n, l8', l9', l10'], []) (HM q' V) ∧ JO b q q' ∧ (lst (jj q' b) n).Perm (lst (jj q b) n) ∧ SD (jj q' b) ((n : Int) - 1) := by
  intro r
  induction r with
  | zero =>
    intro i q l8 l9 l10 e0 hi hs hS
    have ei : i = n := by omega
    subst ei
    exact ⟨q, l8, l9, l10, rfl, JO.refl q, List.Perm.refl _, hS⟩
  | succ r ih =>
    intro i q l8 l9 l10 e0 hi hs hS
    have e := g_348_82 (d := d) (q := q) (V := V) (b1 := b) (l2 := l2) (l3 := l3) (x4 := c0) (l5 := l5) (x6 := n) (x7 := i) (l8 := l8) (l9 := l9) (l10 := l10) hs rk (by omega) (by omega) (fun z => absurd z (by omega)) (fun z => absurd z (by omega))
    rw [cif_neg (by omega)] at e
    obtain ⟨q1, a8, a9, a10, e1, j1, p1, s1⟩ := co_in (d := d) (b := b) (c0 := c0) rk hn (show i < n by omega) l2 l3 l5 i.toNat q l9 l10 hs (by omega) ⟨fun j j1 j2 j3 => hS j j1 (by omega), fun _ z => by omega⟩
    rw [show (i.toNat : Int) = i by omega] at e1
    obtain ⟨q2, b8, b9, b10, e2, j2, p2, s2⟩ := ih (i + 1) q1 a8 a9 a10 (by omega) (by omega) (by rw [j1.1]; exact hs) (by rw [show i + 1 - 1 = i by omega]; exact s1)
    exact ⟨q2, b8, b9, b10, e.trans (e1.trans e2), j1.trans j2, p2.trans p1, s2⟩
theorem SD_le {g : Int → Int} {n : Int} (h : SD g n) : ∀ (r : Nat) (i : Int), 0 ≤ i → i + r ≤ n → g (i + r) ≤ g i := by
  intro r
  induction r with
  | zero =>
    intro i _ _
    rw [show i + ((0 : Nat) : Int) = i by omega]
    exact Int.le_refl _
  | succ r ih =>
    intro i h1 h2
    have a := ih i h1 (by omega)
    have c := h (i + r) (by omega) (by omega)
    rw [show i + ((r + 1 : Nat) : Int) = i + r + 1 by omega]
    omega
theorem co_all (rk : rowok V) {l2 l3 : Option AV} : ∀ (n : Nat) (q : QQ) (c0 : Int) (l5 l7 l8 l9 l10 : Option AV), n ≤ 16 → q.1.2.2 b = some (Sum.inl (2, 40, fun _ => aN)) → (∀ x, x ∈ lst (jj q b) n → 0 ≤ x) → sumL (lst (jj q b) n) ≤ 16000000 →
    ∃ q' c l5' l6' l7' l8' l9' l10', RUN (d + 4) 348 (73, [sR 1 0, sR 46 b, l2, l3, sL c0, l5, sI n, l7, l8, l9, l10], []) (HM q V) = RUN (d + 4) 348 (181, [sR 1 0, sR 46 b, l2, l3, sL (c0 + c), l5', l6', l7', l8', l9', l10'], [aR 1 0]) (HM q' V) ∧ JO b q q' ∧ HC (n - 1) (lst (jj q b) n) c := by
  intro n
  induction n with
  | zero =>
    intro q c0 l5 l7 l8 l9 l10 hn hs h0 hS
    refine ⟨q, 0, l5, sI ((0 : Nat) : Int), l7, l8, l9, l10, ?_, JO.refl q, Nat.zero_le _, rfl⟩
    refine Eq.trans (g_348_73 hs rk (by omega)) ?_
    rw [Int.add_zero]
    exact cif_pos (by omega)
  | succ n ih =>
    intro q c0 l5 l7 l8 l9 l10 hn hs h0 hS
    cases n with
    | zero =>
      refine ⟨q, 0, l5, sI ((0 + 1 : Nat) : Int), l7, l8, l9, l10, ?_, JO.refl q, Nat.le_refl _, rfl⟩
      refine Eq.trans (g_348_73 hs rk (by omega)) ?_
      rw [Int.add_zero]
      exact cif_pos (by omega)
    | succ k =>
      have e73 := g_348_73 (d := d) (q := q) (V := V) (b1 := b) (l2 := l2) (l3 := l3) (x4 := c0) (l5 := l5) (x6 := ((k + 1 + 1 : Nat) : Int)) (l7 := l7) (l8 := l8) (l9 := l9) (l10 := l10) hs rk (by omega)
      rw [cif_neg (by omega)] at e73
      obtain ⟨q1, a8, a9, a10, e1, j1, p1, s1⟩ := co_out (d := d) (b := b) (n := k + 1 + 1) (c0 := c0) rk hn l2 l3 l5 (k + 1) 1 q l8 l9 l10 (by omega) (by omega) hs (fun j z1 z2 => by omega)
      have hs1 : q1.1.2.2 b = some (Sum.inl (2, 40, fun _ => aN)) := by rw [j1.1]; exact hs
      have ek : ((k + 1 + 1 : Nat) : Int) = (k : Int) + 2 := by omega
      have e82 := g_348_82 (d := d) (q := q1) (V := V) (b1 := b) (l2 := l2) (l3 := l3) (x4 := c0) (l5 := l5) (x6 := ((k + 1 + 1 : Nat) : Int)) (x7 := ((k + 1 + 1 : Nat) : Int)) (l8 := a8) (l9 := a9) (l10 := a10) hs1 rk (by omega) (by omega) (fun _ => by omega) (fun _ => by omega)
      rw [cif_pos (Int.le_refl _), show ((k + 1 + 1 : Nat) : Int) - 2 = k by omega, show ((k + 1 + 1 : Nat) : Int) - 1 = k + 1 by omega, show ((k + 1 + 1 : Nat) : Int) + (-1) = ((k + 1 : Nat) : Int) by omega] at e82
      -- the two rarest
      have hm1 : ∀ x, x ∈ lst (jj q1 b) (k + 1 + 1) → 0 ≤ x := fun x hx => h0 x (p1.mem_iff.1 hx)
      have hS1 : sumL (lst (jj q1 b) (k + 1 + 1)) ≤ 16000000 := by rw [sumL_perm p1]; exact hS
      have eL : lst (jj q1 b) (k + 1 + 1) = jj q1 b ((k + 1 : Nat) : Int) :: jj q1 b k :: lst (jj q1 b) k := rfl
      have ek1 : ((k + 1 : Nat) : Int) = (k : Int) + 1 := by omega
      rw [ek1] at eL
      have ha : 0 ≤ jj q1 b ((k : Int) + 1) := hm1 _ (by rw [eL]; exact List.mem_cons_self ..)
      have hb : 0 ≤ jj q1 b k := hm1 _ (by rw [eL]; exact List.mem_cons_of_mem _ (List.mem_cons_self ..))
      have hrest : ∀ x, x ∈ lst (jj q1 b) k → 0 ≤ x := fun x hx => hm1 x (by rw [eL]; exact List.mem_cons_of_mem _ (List.mem_cons_of_mem _ hx))
      have hsum : sumL (lst (jj q1 b) (k + 1 + 1)) = jj q1 b ((k : Int) + 1) + (jj q1 b k + sumL (lst (jj q1 b) k)) := by rw [eL]; rfl
      have hnn := sumL_nn hrest
      have hR : R64 (jj q1 b k + jj q1 b ((k : Int) + 1)) := by constructor <;> omega
      have hj : jj (stJ q1 b k (jj q1 b k + jj q1 b ((k : Int) + 1))) b k = jj q1 b k + jj q1 b ((k : Int) + 1) := by
        rw [jj_st (by omega) (by omega) hR, if_pos rfl]
      rw [hj] at e82
      have eN : lst (jj (stJ q1 b k (jj q1 b k + jj q1 b ((k : Int) + 1))) b) (k + 1) = (jj q1 b ((k : Int) + 1) + jj q1 b k) :: lst (jj q1 b) k := by
        show jj (stJ q1 b k (jj q1 b k + jj q1 b ((k : Int) + 1))) b k :: lst _ k = _
        rw [hj, lst_congr (g := jj q1 b) (fun j z1 z2 => by rw [jj_st (by omega) z1 hR, if_neg (by omega)]), Int.add_comm]
      obtain ⟨q2, c, m5, m6, m7, m8, m9, m10, e2, j2, h2⟩ := ih (stJ q1 b k (jj q1 b k + jj q1 b ((k : Int) + 1))) (c0 + (jj q1 b k + jj q1 b ((k : Int) + 1))) none (sI ((k + 1 + 1 : Nat) : Int)) a8 a9 a10 (by omega) hs1 (fun x hx => by
        rw [eN] at hx
        rcases List.mem_cons.1 hx with z | z
        · omega
        · exact hrest x z) (by
        rw [eN]
        show jj q1 b ((k : Int) + 1) + jj q1 b k + sumL (lst (jj q1 b) k) ≤ _
        omega)
      rw [eN] at h2
      refine ⟨q2, jj q1 b ((k : Int) + 1) + jj q1 b k + c, m5, m6, m7, m8, m9, m10, ?_, (j1.trans JO.st).trans j2, ?_⟩
      · rw [show c0 + (jj q1 b ((k : Int) + 1) + jj q1 b k + c) = c0 + (jj q1 b k + jj q1 b ((k : Int) + 1)) + c by omega]
        exact e73.trans (e1.trans (e82.trans e2))
      · refine ⟨jj q1 b ((k : Int) + 1), jj q1 b k, lst (jj q1 b) k, c, ?_, ?_, fun x hx => ?_, h2, rfl⟩
        · rw [← eL]
          exact p1.symm
        · exact s1 k (by omega) (by omega)
        · obtain ⟨i, i1, i2, i3⟩ := mem_lst.mp hx
          rw [← i3]
          have := SD_le s1 ((k : Int) - i).toNat i i1 (by omega)
          rw [show i + (((k : Int) - i).toNat : Int) = k by omega] at this
          exact this
theorem co_gather (rk : rowok V) {n : Nat} : ∀ (r i : Nat) (q : QQ) (l5 l6 l7 l8 l9 l10 : Option AV), i + r = 16 → q.1.2.2 b = some (Sum.inl (2, 40, fun _ => aN)) → lst (jj q b) (posL (V 10 0) i).length = posL (V 10 0) i →
    ∃ q' l5', RUN (d + 4) 348 (13, [sR 1 0, sR 46 b, sI ((posL (V 10 0) i).length : Nat), sI (sumI (V 10 0) i), sI (97 + (i : Int)), l5, l6, l7, l8, l9, l10], []) (HM q V) = RUN (d + 4) 348 (13, [sR 1 0, sR 46 b, sI ((posL (V 10 0) 16).length : Nat), sI (sumI (V 10 0) 16), sI 113, l5', l6, l7, l8, l9, l10], []) (HM q' V) ∧ JO b q q' ∧ lst (jj q' b) (posL (V 10 0) 16).length = posL (V 10 0) 16 := by
  intro r
  induction r with
  | zero =>
    intro i q l5 l6 l7 l8 l9 l10 e0 hs hl
    have ei : i = 16 := by omega
    subst ei
    exact ⟨q, l5, rfl, JO.refl q, hl⟩
  | succ r ih =>
    intro i q l5 l6 l7 l8 l9 l10 e0 hs hl
    have hlen := posL_len (f := V 10 0) (n := i)
    have h10 := rk_10 rk (j := (i : Int)) (by omega)
    have hsum := sumI_b (f := V 10 0) (n := (i : Int)) (c := 1000000) (by omega) (fun j j1 j2 => rk_10 rk (by omega))
    have ei : 97 + (i : Int) - 97 = i := by omega
    have e := g_348_13 (d := d) (q := q) (V := V) (b1 := b) (x2 := ((posL (V 10 0) i).length : Nat)) (x3 := sumI (V 10 0) i) (x4 := 97 + (i : Int)) (l5 := l5) (l6 := l6) (l7 := l7) (l8 := l8) (l9 := l9) (l10 := l10) hs rk (by omega) (by omega) (by omega) (fun _ => by omega) (fun _ => by omega) (fun _ => by rw [ei]; omega) (fun _ _ => by omega)
    rw [cif_neg (by omega), ei, show (97 + (i : Int) + 1) % 65536 = 97 + ((i + 1 : Nat) : Int) by omega] at e
    have es : sumI (V 10 0) ((i + 1 : Nat) : Int) = sumI (V 10 0) (i : Int) + V 10 0 i := sumI_succ _ (Int.ofNat_nonneg i)
    rw [← es] at e
    have ep : posL (V 10 0) (i + 1) = cif (V 10 0 i ≤ 0) (posL (V 10 0) i) (V 10 0 i :: posL (V 10 0) i) := rfl
    by_cases c : V 10 0 i ≤ 0
    · rw [cif_pos c] at e ep
      obtain ⟨q', l5', e2, j2, h2⟩ := ih (i + 1) q (sI (V 10 0 i)) l6 l7 l8 l9 l10 (by omega) hs (by rw [ep]; exact hl)
      rw [ep] at e2
      exact ⟨q', l5', e.trans e2, j2, h2⟩
    · rw [cif_neg c] at e ep
      have hR : R64 (V 10 0 i) := by constructor <;> omega
      have hl' : lst (jj (stJ q b ((posL (V 10 0) i).length : Nat) (V 10 0 i)) b) (posL (V 10 0) (i + 1)).length = posL (V 10 0) (i + 1) := by
        rw [ep, List.length_cons]
        show jj (stJ q b ((posL (V 10 0) i).length : Nat) (V 10 0 i)) b ((posL (V 10 0) i).length : Nat) :: lst _ (posL (V 10 0) i).length = _
        rw [jj_st (Int.ofNat_nonneg _) (Int.ofNat_nonneg _) hR, if_pos rfl, lst_congr (g := jj q b) (fun j z1 z2 => by rw [jj_st (Int.ofNat_nonneg _) z1 hR, if_neg (by omega)]), hl]
      obtain ⟨q', l5', e2, j2, h2⟩ := ih (i + 1) (stJ q b ((posL (V 10 0) i).length : Nat) (V 10 0 i)) (sI (V 10 0 i)) l6 l7 l8 l9 l10 (by omega) hs hl'
      rw [ep, List.length_cons] at e2
      exact ⟨q', l5', e.trans e2, JO.st.trans j2, h2⟩
theorem s_348 (lw : LW V) {q : QQ} (hq : 136 ≤ q.2.1.1) : ∃ q' W, RUN (d + 4) 348 (am_en 348 [aR 1 0]) (HM q V) = rI 1 (HM q' W) ∧ advJ 3 52 q.2.1.1 q q' ∧ kp q.2.1.1 V W := by
  have rk := lw.1
  generalize hb : q.2.1.1 = b at hq
  generalize hq2 : newJ q 40 = q2
  have hs : q2.1.2.2 b = some (Sum.inl (2, 40, fun _ => aN)) := by
    rw [← hq2, ← hb]
    exact newJ_at
  have a1 : advJ 1 40 b q q2 := by
    rw [← hq2, ← hb]
    exact newJ_adv
  have e2 : RUN (d + 4) 348 (2, [sR 1 0, none, none, none, none, none, none, none, none, none, none], [aI (iI 40)]) (HM q V) = RUN (d + 4) 348 (4, [sR 1 0, none, none, none, none, none, none, none, none, none, none], [aR 46 b]) (HM q2 V) := by
    rw [← hq2, ← hb]
    exact k_newJ46 (N := 40) rfl (by omega)
  obtain ⟨q3, m5, e13, j3, hl3⟩ := co_gather (d := d) (b := b) (n := 0) rk 16 0 q2 none none none none none none (by decide) hs rfl
  have hs3 : q3.1.2.2 b = some (Sum.inl (2, 40, fun _ => aN)) := by rw [j3.1]; exact hs
  have hlen := posL_len (f := V 10 0) (n := 16)
  have hsum := sumI_b (f := V 10 0) (n := (16 : Int)) (c := 1000000) (by omega) (fun j j1 j2 => rk_10 rk (by omega))
  have hps : sumL (posL (V 10 0) 16) = sumI (V 10 0) 16 := posL_sumI (n := 16) (fun i i1 i2 => (rk_10 rk (j := i) (by omega)).1)
  have g13 := g_348_13 (d := d) (q := q3) (V := V) (b1 := b) (x2 := ((posL (V 10 0) 16).length : Nat)) (x3 := sumI (V 10 0) 16) (x4 := 113) (l5 := m5) (l6 := none) (l7 := none) (l8 := none) (l9 := none) (l10 := none) hs3 rk ⟨by decide, by decide⟩ (by omega) (by omega) (fun z => absurd (by decide) z) (fun z => absurd (by decide) z) (fun z => absurd (by decide) z) (fun z => absurd (by decide) z)
  rw [cif_pos (by decide)] at g13
  have hnn : ∀ x, x ∈ lst (jj q3 b) (posL (V 10 0) 16).length → 0 ≤ x := fun x hx => by
    rw [hl3] at hx
    have := posL_mem hx
    omega
  have hSS : sumL (lst (jj q3 b) (posL (V 10 0) 16).length) ≤ 16000000 := by
    rw [hl3, hps]
    omega
  -- the cost
  have cost : ∃ q4 c k2 k3 k5 k6 k7 k8 k9 k10, RUN (d + 4) 348 (13, [sR 1 0, sR 46 b, sI ((posL (V 10 0) 16).length : Nat), sI (sumI (V 10 0) 16), sI 113, m5, none, none, none, none, none], []) (HM q3 V) = RUN (d + 4) 348 (181, [sR 1 0, sR 46 b, k2, k3, sL c, k5, k6, k7, k8, k9, k10], [aR 1 0]) (HM q4 V) ∧ JO b q3 q4 ∧ bcost (posL (V 10 0) 16) c := by
    by_cases c1 : (((posL (V 10 0) 16).length : Nat) : Int) = 1
    · rw [cif_pos c1] at g13
      obtain ⟨q4, c, k5, k6, k7, k8, k9, k10, e4, j4, h4⟩ := co_all (d := d) (b := b) rk (posL (V 10 0) 16).length q3 (sumI (V 10 0) 16) none none none none none (by omega) hs3 hnn hSS
      have hl1 : (posL (V 10 0) 16).length = 1 := by omega
      rw [hl1] at h4
      have hc : c = 0 := h4.2
      subst hc
      rw [Int.add_zero] at e4
      refine ⟨q4, _, _, _, k5, k6, k7, k8, k9, k10, g13.trans e4, j4, fun _ => ?_, fun z => absurd hl1 z⟩
      obtain ⟨x, hx⟩ := List.length_eq_one_iff.mp hl1
      rw [hx] at hps ⊢
      have : x + 0 = sumI (V 10 0) 16 := hps
      rw [← this, Int.add_zero]
    · rw [cif_neg c1] at g13
      obtain ⟨q4, c, k5, k6, k7, k8, k9, k10, e4, j4, h4⟩ := co_all (d := d) (b := b) rk (posL (V 10 0) 16).length q3 0 none none none none none (by omega) hs3 hnn hSS
      rw [Int.zero_add] at e4
      rw [hl3] at h4
      exact ⟨q4, c, _, _, k5, k6, k7, k8, k9, k10, g13.trans e4, j4, fun z => absurd (by rw [z]; rfl) c1, fun _ => h4⟩
  obtain ⟨q4, c, k2, k3, k5, k6, k7, k8, k9, k10, e4, j4, hbc⟩ := cost
  obtain ⟨c1, W1, o1, b1, e32⟩ := s_32 (d := d) (q := q4) rk
  have rk1 := rowok_off o1 rk
  obtain ⟨c2, W2, o2, b2, e37⟩ := s_37 (d := d) (q := q4) rk1
  rw [o1 10 0 (by decide)] at b2
  have ec1 : c1 = c := bcost_uniq (List.Perm.refl _) b1 hbc
  have ec2 : c2 = c := bcost_uniq (List.Perm.refl _) b2 hbc
  subst ec1
  subst ec2
  have g181 := g_348_181 (d := d) (q := q4) (V := V) (l1 := sR 46 b) (l2 := k2) (l3 := k3) (x4 := c2) (l5 := k5) (l6 := k6) (l7 := k7) (l8 := k8) (l9 := k9) (l10 := k10) rk e32 (qle_refl _) (bcost_R rk b1)
  rw [cif_pos (lcF_self _)] at g181
  have g192 := g_348_192 (d := d) (q := q4) (V := W1) (l1 := sR 46 b) (l2 := k2) (l3 := k3) (x4 := c2) (l5 := k5) (l6 := k6) (l7 := k7) (l8 := k8) (l9 := k9) (l10 := k10) rk1 e37 (qle_refl _) (bcost_R rk b1)
  rw [cif_pos (lcF_self _)] at g192
  have o12 := offC_trans o1 o2
  have oS : offS V W2 := fun a b h => o12 a b (by omega)
  have k : kp b V W2 := kp_off lw oS (relok_off o12 lw.2.2.2.2.1)
  refine ⟨thr (thr q4), W2, ?_, ?_, k⟩
  · refine Eq.trans (g_348_0 rk) (e2.trans ((g_348_4 rk).trans ?_))
    refine Eq.trans e13 (e4.trans (g181.trans (g192.trans ?_)))
    exact h_348_202 (rowok_off o2 rk1)
  · exact ((a1.trans ((j3.trans j4).adv (Nat.le_refl _))).trans ((adv_thr (n0 := b) q4).trans (adv_thr (n0 := b) (thr q4))).toJ).mono (by decide) (by decide) (Nat.le_refl _)
end
