/-! what the model writes -/
def outM (V : VV) (L : List Int) : Prop := V 33 0 15 = L.length ∧ L.length ≤ 40 ∧ ∀ i : Nat, i < L.length → L[i]? = some (V 41 0 i)
def offQ (V W : VV) : Prop := (∀ a b, ¬ (a = 33 ∨ a = 41) → W a b = V a b) ∧ (∀ j, ¬ j = 15 → W 33 0 j = V 33 0 j)
theorem offQ_refl (V : VV) : offQ V V := ⟨fun _ _ _ => rfl, fun _ _ => rfl⟩
theorem offQ_trans {V W Z : VV} (h : offQ V W) (k : offQ W Z) : offQ V Z := ⟨fun a b z => (k.1 a b z).trans (h.1 a b z), fun j z => (k.2 j z).trans (h.2 j z)⟩
theorem offQ_MR {V W U : VV} (h : offQ V W) (mr : MR V U) : MR W U := MR_off (h.1 34 0 (by decide)) mr
theorem outM_0 (V : VV) : outM (upV V 33 0 15 0) [] := ⟨rfl, by decide, fun i h => absurd h (Nat.not_lt_zero i)⟩
theorem offQ_0 (V : VV) : offQ V (upV V 33 0 15 0) := ⟨fun a b h => upV_off (by omega), fun j h => by rw [upV_at, if_neg h]⟩
theorem says_is {V : VV} {L : List Int} {c : Int} (h : outM V L) (hl : L.length < 40) (hc : 0 ≤ c ∧ c < 65536) : ∃ W, offQ V W ∧ outM W (L ++ [c]) ∧ ∀ (d : Nat) (q : QQ), RUN d 288 (am_en 288 [aR 33 0, aI (iI c)]) (HM q V) = rV (HM q W) := by
  obtain ⟨h1, h2, h3⟩ := h
  refine ⟨upV (upV V 41 0 (V 33 0 15) (c % 65536)) 33 0 15 (V 33 0 15 + 1), ⟨fun a b z => ?_, fun j z => ?_⟩, ⟨?_, ?_, fun i hi => ?_⟩, fun d q => e_288 (by omega) hc⟩
  · rw [upV_off (by omega), upV_off (by omega)]
  · rw [upV_at, if_neg z, upV_off (by decide)]
  · rw [List.length_append]
    show V 33 0 15 + 1 = ((L.length + 1 : Nat) : Int)
    omega
  · rw [List.length_append]
    show L.length + 1 ≤ 40
    omega
  · rw [List.length_append] at hi
    have hi2 : i < L.length + 1 := hi
    show _ = some (if (i : Int) = V 33 0 15 then c % 65536 else V 41 0 i)
    by_cases e : i = L.length
    · rw [if_pos (by omega), List.getElem?_append_right (by omega), e, Nat.sub_self, show c % 65536 = c by omega]
      rfl
    · rw [if_neg (by omega), List.getElem?_append_left (by omega)]
      exact h3 i (by omega)
theorem num_is {V : VV} {L : List Int} {n : Int} (h : outM V L) (hl : L.length + 3 ≤ 40) (hn : 0 ≤ n ∧ n < 1000) : ∃ W, offQ V W ∧ outM W (L ++ numL n) ∧ ∀ (d : Nat) (q : QQ), RUN (d + 1) 287 (am_en 287 [aR 33 0, aI (iI n)]) (HM q V) = rV (HM q W) := by
  unfold numL
  by_cases k : n < 100
  · rw [cif_pos k]
    by_cases k2 : n < 10
    · rw [cif_pos k2]
      obtain ⟨W, w1, w2, w3⟩ := says_is (c := 48 + n % 10) h (by omega) (by omega)
      exact ⟨W, w1, w2, fun d q => ((g_287_0 hn).trans (cif_pos (by omega))).trans (((g_287_17 hn).trans (cif_pos (by omega))).trans (g_287_45 (w3 d q) (qle_refl _)))⟩
    · rw [cif_neg k2]
      obtain ⟨W, w1, w2, w3⟩ := says_is (c := 48 + n / 10 % 10) h (by omega) (by omega)
      obtain ⟨Z, z1, z2, z3⟩ := says_is (c := 48 + n % 10) w2 (by rw [List.length_append]; show L.length + 1 < 40; omega) (by omega)
      rw [List.append_assoc] at z2
      exact ⟨Z, offQ_trans w1 z1, z2, fun d q => ((g_287_0 hn).trans (cif_pos (by omega))).trans (((g_287_17 hn).trans (cif_neg (by omega))).trans ((g_287_34 hn (w3 d q) (qle_refl _)).trans (g_287_45 (z3 d q) (qle_refl _))))⟩
  · rw [cif_neg k]
    obtain ⟨X, x1, x2, x3⟩ := says_is (c := 48 + n / 100) h (by omega) (by omega)
    obtain ⟨W, w1, w2, w3⟩ := says_is (c := 48 + n / 10 % 10) x2 (by rw [List.length_append]; show L.length + 1 < 40; omega) (by omega)
    obtain ⟨Z, z1, z2, z3⟩ := says_is (c := 48 + n % 10) w2 (by rw [List.length_append, List.length_append]; show L.length + 1 + 1 < 40; omega) (by omega)
    rw [List.append_assoc, List.append_assoc] at z2
    exact ⟨Z, offQ_trans x1 (offQ_trans w1 z1), z2, fun d q => ((g_287_0 hn).trans (cif_neg (by omega))).trans ((g_287_14 hn (x3 d q) (qle_refl _)).trans (((g_287_17 hn).trans (cif_neg (by omega))).trans ((g_287_34 hn (w3 d q) (qle_refl _)).trans (g_287_45 (z3 d q) (qle_refl _)))))⟩
theorem twM_go {U : VV} {t : Int} (rk : rowok U) (p : 0 ≤ t ∧ t < 8) : ∀ (k : Nat) (V : VV) (L : List Int), MR V U → outM V L → (k : Int) + 1 ≤ U 8 0 t → L.length + k ≤ 40 →
    ∃ W, offQ V W ∧ outM W (L ++ sg (U 9 0) (8 * t + U 8 0 t - k) k) ∧ ∀ (d : Nat) (q : QQ), RUN (d + 2) 286 (70, [sR 33 0, sI t, sI ((k : Int) - 1)], []) (HM q V) = rI (L.length + k : Nat) (HM q W) := by
  intro k
  induction k with
  | zero =>
    intro V L mr h _ hl
    refine ⟨V, offQ_refl V, ?_, fun d q => ?_⟩
    · show outM V (L ++ [])
      rw [List.append_nil]
      exact h
    · rw [g_286_70 rk mr (by decide) (fun c => absurd (by decide) c), cif_pos (by decide), h.1]
      rfl
  | succ k ih =>
    intro V L mr h hk hl
    have h8 := rk_8 rk p
    have hb := rk_9 rk (j := 8 * t + U 8 0 t - 1 - k) (by omega)
    obtain ⟨W, w1, w2, w3⟩ := says_is (c := U 9 0 (8 * t + U 8 0 t - 1 - k)) h (by omega) (by omega)
    obtain ⟨Z, z1, z2, z3⟩ := ih W (L ++ [U 9 0 (8 * t + U 8 0 t - 1 - k)]) (offQ_MR w1 mr) w2 (by omega) (by rw [List.length_append]; show L.length + 1 + k ≤ 40; omega)
    have e1 : (((k + 1 : Nat) : Int) - 1) = (k : Int) := by omega
    refine ⟨Z, offQ_trans w1 z1, ?_, fun d q => ?_⟩
    · rw [List.append_assoc] at z2
      have e2 : 8 * t + U 8 0 t - ((k + 1 : Nat) : Int) = 8 * t + U 8 0 t - 1 - k := by omega
      have e3 : 8 * t + U 8 0 t - 1 - (k : Int) + 1 = 8 * t + U 8 0 t - k := by omega
      rw [e2]
      show outM Z (L ++ (U 9 0 (8 * t + U 8 0 t - 1 - k) :: sg (U 9 0) (8 * t + U 8 0 t - 1 - k + 1) k))
      rw [e3]
      exact z2
    · rw [e1]
      have f1 := g_286_70 (d := d) (q := q) (V := V) (x1 := t) (x2 := (k : Int)) rk mr (by constructor <;> omega) (fun _ => p)
      have f1 := (f1.trans (cif_neg (by omega))).trans (cif_neg (by omega))
      have f2 := g_286_92 (d := d) (q := q) (V := V) (x1 := t) (x2 := (k : Int)) rk mr p ⟨by omega, by omega⟩
      have f3 := g_286_101 (d := d) (q := q) (V := V) (x1 := t) (x2 := (k : Int)) (s0 := U 9 0 (8 * t + U 8 0 t - 1 - k)) rk mr (w3 (d + 1) q) (qle_refl _)
      have f4 := z3 d q
      rw [List.length_append] at f4
      refine (f1.trans (f2.trans (f3.trans f4))).trans ?_
      show rI ((L.length + 1 + k : Nat) : Int) (HM q Z) = rI ((L.length + (k + 1) : Nat) : Int) (HM q Z)
      rw [show L.length + 1 + k = L.length + (k + 1) by omega]
theorem s_286 {d : Nat} {q : QQ} {V U : VV} {x1 : Int} (rk : rowok U) (mr : MR V U) (h : R32 x1) :
    (¬ (0 ≤ x1 ∧ x1 < U 2 0 8) ∧ RUN (d + 2) 286 (am_en 286 [aR 33 0, aI (iI x1)]) (HM q V) = rI 0 (HM q (upV V 33 0 6 1))) ∨
    ((0 ≤ x1 ∧ x1 < U 2 0 8) ∧ ∃ W, offQ (upV V 33 0 6 0) W ∧ outM W (twrL U x1) ∧ RUN (d + 2) 286 (am_en 286 [aR 33 0, aI (iI x1)]) (HM q V) = rI (twrL U x1).length (HM q W)) := by
  have hn := rk_n rk
  have e0 := g_286_0 (d := d) (q := q) (V := V) rk mr h
  by_cases c : 0 ≤ x1 ∧ x1 < U 2 0 8
  · refine Or.inr ⟨c, ?_⟩
    have e0 := e0.trans (cif_pos c)
    have p : 0 ≤ x1 ∧ x1 < 8 := by omega
    have h4 := rk_4 rk p
    have h5 := rk_5 rk p
    have h6 := rk_6 rk p
    have h8 := rk_8 rk p
    have l4 := numL_len (n := U 4 0 x1)
    have l5 := numL_len (n := U 5 0 x1)
    have l6 := numL_len (n := U 6 0 x1)
    have mr0 : MR (upV (upV V 33 0 6 0) 33 0 15 0) U := mr
    have i0 := outM_0 (upV V 33 0 6 0)
    obtain ⟨V1, a1, b1, c1⟩ := num_is (n := U 4 0 x1) i0 (by decide) (by omega)
    rw [List.nil_append] at b1
    obtain ⟨V2, a2, b2, c2⟩ := says_is (c := 43) b1 (by omega) (by decide)
    obtain ⟨V3, a3, b3, c3⟩ := num_is (n := U 5 0 x1) b2 (by rw [List.length_append]; show (numL (U 4 0 x1)).length + 1 + 3 ≤ 40; omega) (by omega)
    obtain ⟨V4, a4, b4, c4⟩ := says_is (c := 33) b3 (by rw [List.length_append, List.length_append]; show (numL (U 4 0 x1)).length + 1 + _ < 40; omega) (by decide)
    obtain ⟨V5, a5, b5, c5⟩ := num_is (n := U 6 0 x1) b4 (by rw [List.length_append, List.length_append, List.length_append]; show (numL (U 4 0 x1)).length + 1 + (numL (U 5 0 x1)).length + 1 + 3 ≤ 40; omega) (by omega)
    have hlen : (numL (U 4 0 x1) ++ [43] ++ numL (U 5 0 x1) ++ [33] ++ numL (U 6 0 x1)).length ≤ 11 := by
      rw [List.length_append, List.length_append, List.length_append, List.length_append]
      show (numL (U 4 0 x1)).length + 1 + (numL (U 5 0 x1)).length + 1 + _ ≤ 11
      omega
    have m1 := offQ_MR a1 mr0
    have m2 := offQ_MR a2 m1
    have m3 := offQ_MR a3 m2
    have m4 := offQ_MR a4 m3
    have m5 := offQ_MR a5 m4
    have o5 : offQ (upV V 33 0 6 0) V5 := offQ_trans (offQ_0 _) (offQ_trans a1 (offQ_trans a2 (offQ_trans a3 (offQ_trans a4 a5))))
    have f := e0.trans ((g_286_26 rk mr0 (c1 (d) q) (qle_refl _)).trans ((g_286_32 rk m1 (c2 (d + 1) q) (qle_refl _) m2 p).trans ((g_286_42 rk m2 (c3 d q) (qle_refl _)).trans ((g_286_48 rk m3 (c4 (d + 1) q) (qle_refl _) m4 p).trans (g_286_58 rk m4 (c5 d q) (qle_refl _) m5 p)))))
    unfold twrL
    generalize numL (U 4 0 x1) ++ [43] ++ numL (U 5 0 x1) ++ [33] ++ numL (U 6 0 x1) = L at b5 hlen
    by_cases z : U 8 0 x1 ≤ 0
    · have e8 : U 8 0 x1 = 0 := by omega
      rw [cif_pos z, e8]
      rw [e8] at f
      refine ⟨V5, o5, ?_, f.trans ?_⟩
      · show outM V5 (L ++ [] ++ [])
        rw [List.append_nil, List.append_nil]
        exact b5
      · rw [g_286_70 rk m5 (by decide) (fun c => absurd (by decide) c), cif_pos (by decide), b5.1]
        show _ = rI ((L ++ [] ++ []).length : Int) (HM q V5)
        rw [List.append_nil, List.append_nil]
    · rw [cif_neg z]
      obtain ⟨k, hk⟩ : ∃ k : Nat, U 8 0 x1 = k + 1 := ⟨(U 8 0 x1 - 1).toNat, by omega⟩
      have hb := rk_9 rk (j := 8 * x1 + U 8 0 x1 - 1 - (U 8 0 x1 - 1)) (by omega)
      obtain ⟨V6, a6, b6, c6⟩ := says_is (c := 58) b5 (by omega) (by decide)
      obtain ⟨V7, a7, b7, c7⟩ := says_is (c := U 9 0 (8 * x1 + U 8 0 x1 - 1 - (U 8 0 x1 - 1))) b6 (by rw [List.length_append]; show L.length + 1 < 40; omega) (by omega)
      have m6 := offQ_MR a6 m5
      have m7 := offQ_MR a7 m6
      obtain ⟨Z, z1, z2, z3⟩ := twM_go rk p k V7 _ m7 b7 (by omega) (by rw [List.length_append, List.length_append]; show L.length + 1 + 1 + k ≤ 40; omega)
      have f1 := g_286_70 (d := d) (q := q) (V := V5) (x1 := x1) (x2 := U 8 0 x1 - 1) rk m5 (by constructor <;> omega) (fun _ => p)
      have f1 := (f1.trans (cif_neg (by omega))).trans (cif_pos rfl)
      have f2 := g_286_89 (d := d) (q := q) (x1 := x1) (x2 := U 8 0 x1 - 1) rk m5 (c6 (d + 1) q) (qle_refl _)
      have f3 := g_286_92 (d := d) (q := q) (V := V6) (x1 := x1) (x2 := U 8 0 x1 - 1) rk m6 p ⟨by omega, by omega⟩
      have f4 := g_286_101 (d := d) (q := q) (V := V6) (x1 := x1) (x2 := U 8 0 x1 - 1) rk m6 (c7 (d + 1) q) (qle_refl _)
      have e9 : U 8 0 x1 - 1 + -1 = (k : Int) - 1 := by omega
      rw [e9] at f4
      have ff := f.trans (f1.trans (f2.trans (f3.trans (f4.trans (z3 d q)))))
      have eL : L ++ [58] ++ [U 9 0 (8 * x1 + U 8 0 x1 - 1 - (U 8 0 x1 - 1))] ++ sg (U 9 0) (8 * x1 + U 8 0 x1 - k) k = L ++ [58] ++ sg (U 9 0) (x1 * 8 + 0) (U 8 0 x1).toNat := by
        rw [List.append_assoc (L ++ [58]), show (U 8 0 x1).toNat = k + 1 by omega]
        show L ++ [58] ++ (U 9 0 (8 * x1 + U 8 0 x1 - 1 - (U 8 0 x1 - 1)) :: sg (U 9 0) (8 * x1 + U 8 0 x1 - k) k) = L ++ [58] ++ (U 9 0 (x1 * 8 + 0) :: sg (U 9 0) (x1 * 8 + 0 + 1) k)
        rw [show 8 * x1 + U 8 0 x1 - 1 - (U 8 0 x1 - 1) = x1 * 8 + 0 by omega, show 8 * x1 + U 8 0 x1 - k = x1 * 8 + 0 + 1 by omega]
      rw [eL] at z2
      refine ⟨Z, offQ_trans o5 (offQ_trans a6 (offQ_trans a7 z1)), z2, ff.trans ?_⟩
      rw [← eL]
      refine congrArg (fun n : Nat => rI (n : Int) (HM q Z)) ?_
      rw [List.length_append (as := L ++ [58] ++ [U 9 0 (8 * x1 + U 8 0 x1 - 1 - (U 8 0 x1 - 1))]), sg_len]
  · exact Or.inl ⟨c, e0.trans (cif_neg c)⟩
theorem patM_go {x1 : Int} (hx : R32 x1) : ∀ (k : Nat) (i : Int) (V : VV) (L : List Int), outM V L → 0 ≤ i → i + k = 8 → L.length + k ≤ 40 →
    ∃ W, offQ V W ∧ outM W (L ++ sg (patC x1) i k) ∧ ∀ (d : Nat) (q : QQ), RUN (d + 1) 290 (24, [sR 33 0, sI x1, sI i], []) (HM q V) = rI (L.length + k : Nat) (HM q W) := by
  intro k
  induction k with
  | zero =>
    intro i V L ho h0 hi hl
    refine ⟨V, offQ_refl V, ?_, fun d q => ?_⟩
    · show outM V (L ++ [])
      rw [List.append_nil]
      exact ho
    · rw [g_290_24 hx (by omega), cif_pos (by omega), ho.1]
      rfl
  | succ k ih =>
    intro i V L ho h0 hi hl
    have hp : 0 ≤ patC x1 i ∧ patC x1 i < 65536 := by
      unfold patC
      by_cases c : bAnd (bShr x1 i) 1 = 1
      · rw [cif_pos c]; decide
      · rw [cif_neg c]; decide
    obtain ⟨W, w1, w2, w3⟩ := says_is (c := patC x1 i) ho (by omega) hp
    obtain ⟨Z, z1, z2, z3⟩ := ih (i + 1) W (L ++ [patC x1 i]) w2 (by omega) (by omega) (by rw [List.length_append]; show L.length + 1 + k ≤ 40; omega)
    refine ⟨Z, offQ_trans w1 z1, ?_, fun d q => ?_⟩
    · rw [List.append_assoc] at z2
      exact z2
    · have f := g_290_24 (d := d) (q := q) (V := V) (x2 := i) hx (by omega)
      have f := f.trans (cif_neg (by omega))
      have f2 : RUN (d + 1) 290 (24, [sR 33 0, sI x1, sI i], []) (HM q V) = RUN (d + 1) 290 (47, [sR 33 0, sI x1, sI i], [aI (iI (patC x1 i)), aR 33 0]) (HM q V) := f.trans (by
        unfold patC
        refine cif_eq (fun c => ?_) (fun c => ?_)
        · rw [cif_pos c]
        · rw [cif_neg c])
      have f4 := z3 d q
      rw [List.length_append] at f4
      refine (f2.trans ((g_290_47 hx (w3 d q) (qle_refl _)).trans f4)).trans ?_
      show rI ((L.length + 1 + k : Nat) : Int) (HM q Z) = rI ((L.length + (k + 1) : Nat) : Int) (HM q Z)
      rw [show L.length + 1 + k = L.length + (k + 1) by omega]
theorem s_290 {d : Nat} {q : QQ} {V : VV} {x1 : Int} (h : R32 x1) :
    (¬ (0 ≤ x1 ∧ x1 < 256) ∧ RUN (d + 1) 290 (am_en 290 [aR 33 0, aI (iI x1)]) (HM q V) = rI 0 (HM q (upV V 33 0 6 1))) ∨
    ((0 ≤ x1 ∧ x1 < 256) ∧ ∃ W, offQ (upV V 33 0 6 0) W ∧ outM W (sg (patC x1) 0 8) ∧ RUN (d + 1) 290 (am_en 290 [aR 33 0, aI (iI x1)]) (HM q V) = rI 8 (HM q W)) := by
  have e0 := g_290_0 (d := d) (q := q) (V := V) h
  by_cases c : 0 ≤ x1 ∧ x1 < 256
  · obtain ⟨W, w1, w2, w3⟩ := patM_go (x1 := x1) h 8 0 (upV (upV V 33 0 6 0) 33 0 15 0) [] (outM_0 _) (by decide) (by decide) (by decide)
    exact Or.inr ⟨c, W, offQ_trans (offQ_0 _) w1, w2, (e0.trans (cif_pos (by omega))).trans (w3 d q)⟩
  · exact Or.inl ⟨c, e0.trans (cif_neg (by omega))⟩
