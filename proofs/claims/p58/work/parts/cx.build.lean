/-! the law builds texts: one builder after the other -/
theorem ST.keep2 {n0 m s a b mb : Nat} {q q' : QQ} {V W : VV} {L : List Int} (h : ST n0 q V a b mb L) (f : adv m s n0 q q') (k : k46 n0 V W) : ST n0 q' W a b mb L := by
  obtain ⟨h1, h2⟩ := h
  obtain ⟨⟨f1, f2, f3⟩, _⟩ := f
  refine ⟨h1, ?_⟩
  rcases h2 with ⟨e, k1, g, k2, k3⟩ | ⟨e, k1, k2, k3, k4, k5, k6⟩
  · exact Or.inl ⟨e, by rw [f1, f2]; exact k1, g, by rw [f1, f2]; exact k2, k3⟩
  · refine Or.inr ⟨e, by rw [f3 b k5]; exact k1, by rw [k b k5]; exact k2, by rw [f3 mb k6]; exact k3, fun i hi => ?_, k5, k6⟩
    rw [k mb k6]
    exact k4 i hi
theorem BT.keep {n0 m s b : Nat} {q q' : QQ} {V W : VV} {L : List Int} (h : BT n0 q V b L) (f : adv m s q.2.1.1 q q') (k : k46 q.2.1.1 V W) : BT n0 q' W b L := by
  obtain ⟨mm, c, ⟨⟨hb, hm⟩, ⟨v1, v3⟩, ⟨bm, b1, b2, b3, b4, b5⟩, ⟨n1, n2, n3⟩, hf⟩, hT⟩ := h
  obtain ⟨⟨f1, f2, f3⟩, _, f5, _⟩ := f
  exact ⟨mm, c, ⟨⟨by rw [f3 b b3]; exact hb, by rw [f3 mm b4]; exact hm⟩, ⟨by rw [k b b3]; exact v1, by rw [k b b3]; exact v3⟩, ⟨bm, b1, b2, by omega, by omega, b5⟩, ⟨n1, n2, n3⟩, fun j j1 j2 => by rw [k mm b4]; exact hf j j1 j2⟩, fun i hi => by rw [k mm b4]; exact hT i hi⟩
theorem FS.k46 {n0 m s : Nat} {q q' : QQ} {V W : VV} (f : FS n0 m s q V q' W) : k46 n0 V W := fun x hx => f.2 46 x (Or.inr hx)
theorem kp_FS {n0 m s : Nat} {q q' : QQ} {V W : VV} (lw : LW V) (f : FS n0 m s q V q' W) : kp n0 V W := by
  have o : ∀ a b, ¬ a = 46 → W a b = V a b := fun a b z => f.2 a b (Or.inl z)
  refine ⟨fun a h1 h2 => funext fun b => o a b (by omega), funext fun b => o 23 b (by omega), fun x hx => f.2 46 x (Or.inr hx), relok_eq (fun a b z1 z2 => o a b (by omega)) lw.2.2.2.2.1, ?_, ?_⟩
  · unfold outok
    rw [o 31 0 (by omega)]
    exact lw.2.2.2.2.2.1
  · unfold inok
    rw [o 27 0 (by omega), o 28 0 (by omega)]
    exact lw.2.2.2.2.2.2
theorem kp.k46 {n0 : Nat} {V W : VV} (k : kp n0 V W) : k46 n0 V W := fun x hx => k.2.2.1 x hx
theorem BT.asc0 {L : List Int} {x : Int} (h : ∀ i : Nat, 0 ≤ L.getD i 0 ∧ L.getD i 0 < 128) (hx : 0 ≤ x ∧ x < 128) : ∀ i : Nat, 0 ≤ (x :: L).getD i 0 ∧ (x :: L).getD i 0 < 128 := by
  intro i
  match i with
  | 0 => exact hx
  | i + 1 => exact h i
def asc (L : List Int) : Prop := ∀ i : Nat, 0 ≤ L.getD i 0 ∧ L.getD i 0 < 128
theorem asc_app {L K : List Int} (h : asc L) (k : asc K) : asc (L ++ K) := fun i => by
  by_cases c : i < L.length
  · rw [getD_app1 c]
    exact h i
  · rw [getD_app2 (by omega)]
    exact k _
theorem asc_nil : asc [] := fun i => by
  match i with
  | 0 => exact (⟨by decide, by decide⟩ : (0 : Int) ≤ 0 ∧ (0 : Int) < 128)
  | i + 1 => exact (⟨by decide, by decide⟩ : (0 : Int) ≤ 0 ∧ (0 : Int) < 128)
theorem asc_one {x : Int} (hx : 0 ≤ x ∧ x < 128) : asc [x] := BT.asc0 asc_nil hx
section
variable {d y pc p1 p2 n0 b : Nat} {ls : List (Option AV)} {st : List AV} {q : QQ} {V : VV} {L : List Int}
theorem k_newSB (h1 : am_cd y pc = i_new 9 4 [aN, aI 0, aI 0, aI 0] p1) (h2 : am_cd y p1 = i_dup p2) (h3 : am_cd y p2 = i_calli 351 0) (hs : Nat.ble (st.length + 1) 4 = true) (hn : 136 ≤ q.2.1.1) : ∃ q' V', RUN (d + 6) y (pc, ls, st) (HM q V) = RUN (d + 6) y (p2 + 3, ls, aR 46 q.2.1.1 :: st) (HM q' V') ∧ BT q.2.1.1 q' V' q.2.1.1 [] ∧ FS q.2.1.1 2 20 q V q' V' := by
  generalize hb : q.2.1.1 = b
  generalize hq2 : newQ q (some (Sum.inr (9, [aN, aI 0, aI 0, aI 0]))) 4 = q2
  have q2b : q2.1.2.2 b = some (Sum.inr (9, [aN, aI 0, aI 0, aI 0])) := by
    rw [← hq2, ← hb]
    exact newQ_at
  have q2c : q2.2.1.1 = b + 1 := by
    rw [← hq2, ← hb]
    rfl
  have f2 : FS b 1 4 q V q2 (setA V 46 b (fun _ => 0)) := by
    refine ⟨?_, fun a x z => set46_off (by omega)⟩
    rw [← hq2, ← hb]
    exact newQ_adv
  obtain ⟨q', V', e, hB, f⟩ := c_351 (d := d + 4) (n0 := b) (q := q2) (V := setA V 46 b (fun _ => 0)) q2b (by omega) (by rw [set46_at])
  refine ⟨q', V', ?_, hB, f2.trans f⟩
  have en := k_new46 (d := d + 6) (ls := ls) (st := st) (q := q) (V := V) h1 hn
  rw [hb, hq2] at en
  refine en.trans (Eq.trans (k_dupR h2) ?_)
  refine RUN_ci (r := none) (fr2 := (p2, ls, aR 46 b :: st)) h3 ?_ rfl e f.qle
  show (match Nat.ble (st.length + 1) 4 with
      | true => ([], Sum.inr (Sum.inl (351, Sum.inr (Sum.inl (46, b)) :: [], (p2, ls, aR 46 b :: st))))
      | _ => stuck) = _
  rw [hs]
theorem k_apC {x : Int} (hcd : am_cd y pc = i_call 353 1 9) (hs : Nat.ble st.length 4 = true) (hB : BT n0 q V b L) (hx : 0 ≤ x ∧ x < 128) (hl : L.length < 70) : ∃ q' V', RUN (d + 6) y (pc, ls, aI (iI x) :: aR 46 b :: st) (HM q V) = RUN (d + 6) y (pc + 3, ls, aR 46 b :: st) (HM q' V') ∧ BT n0 q' V' b (L ++ [x]) ∧ FS n0 1 200 q V q' V' := by
  obtain ⟨q', V', e, h', f⟩ := c_353 (d := d + 1) hB hx hl
  obtain ⟨m, c, ⟨⟨hb, hm⟩, _⟩, _⟩ := hB
  exact ⟨q', V', RUN_ci hcd (c1_46 hb hs) rfl e f.qle, h', f⟩
theorem k_apN {x : Int} (hcd : am_cd y pc = i_call 383 1 9) (hs : Nat.ble st.length 4 = true) (hB : BT n0 q V b L) (hx : 0 ≤ x ∧ x < 1000) (hl : L.length < 60) : ∃ q' V', RUN (d + 6) y (pc, ls, aI (iI x) :: aR 46 b :: st) (HM q V) = RUN (d + 6) y (pc + 3, ls, aR 46 b :: st) (HM q' V') ∧ BT n0 q' V' b (L ++ numL x) ∧ FS n0 1 200 q V q' V' := by
  obtain ⟨q', V', e, h', f⟩ := c_383 (d := d + 1) hB hx hl
  obtain ⟨m, c, ⟨⟨hb, hm⟩, _⟩, _⟩ := hB
  exact ⟨q', V', RUN_ci hcd (c1_46 hb hs) rfl e f.qle, h', f⟩
theorem k_apS {a b' mb : Nat} {K : List Int} (hcd : am_cd y pc = i_call 366 1 9) (hs : Nat.ble st.length 4 = true) (h : ST n0 q V a b' mb K) (hB : BT n0 q V b L) (hl : L.length + K.length ≤ 70) : ∃ q' V', RUN (d + 6) y (pc, ls, aR a b' :: aR 46 b :: st) (HM q V) = RUN (d + 6) y (pc + 3, ls, aR 46 b :: st) (HM q' V') ∧ BT n0 q' V' b (L ++ K) ∧ FS n0 1 200 q V q' V' := by
  obtain ⟨q', V', e, h', f⟩ := c_366 (d := d + 1) h hB hl
  obtain ⟨m, c, ⟨⟨hb, hm⟩, _⟩, _⟩ := hB
  exact ⟨q', V', RUN_ci hcd (c1_46 hb hs) rfl e f.qle, h', f⟩
/-- a text that was made behind the builder -/
theorem k_apS2 {a b' mb n1 : Nat} {K : List Int} (hcd : am_cd y pc = i_call 366 1 9) (hs : Nat.ble st.length 4 = true) (h : ST q.2.1.1 q V a b' mb K) (hB : BT n0 q V b L) (hb1 : b < n1) (ha : a = 46 → n1 ≤ b' ∧ n1 ≤ mb) (hl : L.length + K.length ≤ 70) : ∃ q' V', RUN (d + 6) y (pc, ls, aR a b' :: aR 46 b :: st) (HM q V) = RUN (d + 6) y (pc + 3, ls, aR 46 b :: st) (HM q' V') ∧ BT n0 q' V' b (L ++ K) ∧ FS n0 1 200 q V q' V' := by
  obtain ⟨m, c, hB, hT⟩ := hB
  obtain ⟨q', V', e, h', f⟩ := c_367x (d := d + 1) h hB hT (fun z => by have := ha z; omega) hl
  have hb := hB.1.1
  have e366 : RUN (d + 5) 366 (am_en 366 [aR 46 b, aR a b']) (HM q V) = some (Sum.inl (some (aR 46 b)), HM q' V') := by
    refine (show RUN (d + 5) 366 (0, [sR 46 b, sR a b'], []) (HM q V) = _ from ?_)
    refine Eq.trans (k_aload rfl rfl) ?_
    refine Eq.trans (k_aload rfl rfl) ?_
    refine Eq.trans (RUN_ci rfl (c1_46 hb rfl) rfl e f.qle) ?_
    refine Eq.trans (k_popR rfl) ?_
    refine Eq.trans (k_aload rfl rfl) ?_
    exact k_aretR rfl
  exact ⟨q', V', RUN_ci hcd (c1_46 hb hs) rfl e366 f.qle, h', f⟩
theorem k_ts (hcd : am_cd y pc = i_call 374 0 9) (hs : Nat.ble st.length 4 = true) (hB : BT n0 q V b L) (as : asc L) : ∃ q' V' s mb, RUN (d + 6) y (pc, ls, aR 46 b :: st) (HM q V) = RUN (d + 6) y (pc + 3, ls, aR 46 s :: st) (HM q' V') ∧ ST q'.2.1.1 q' V' 46 s mb L ∧ FS q.2.1.1 2 204 q V q' V' ∧ (q.2.1.1 ≤ s ∧ q.2.1.1 ≤ mb) := by
  obtain ⟨q', V', s, mb, e, h', f, g⟩ := c_374 (d := d) hB as
  obtain ⟨m, c, ⟨⟨hb, hm⟩, _⟩, _⟩ := hB
  exact ⟨q', V', s, mb, RUN_ci hcd (c0_46 hb hs) rfl e f.qle, h', f, g⟩
end
/-- a text of the start -/
theorem st_of {n0 b mb : Nat} {q : QQ} {V : VV} {L : List Int} {g : Nat → AV} (h1 : asc L ∧ L.length < 200) (h2 : am_PS q.1.1 q.1.2.1 b = some (Sum.inr (91, [aR 0 mb, aI 0]))) (h3 : am_PS q.1.1 q.1.2.1 mb = some (Sum.inl (10, L.length, g))) (h4 : ∀ j : Nat, j < L.length → g j = aI (iI (L.getD j 0))) : ST n0 q V 0 b mb L := ⟨h1, Or.inl ⟨rfl, h2, g, h3, h4⟩⟩
theorem st_13 {n0 : Nat} {q : QQ} {V : VV} : ST n0 q V 0 13 30 [] := st_of ⟨asc_nil, by decide⟩ rfl rfl (fun j h => absurd h (Nat.not_lt_zero j))
theorem st_1 {n0 b mb : Nat} {q : QQ} {V : VV} {x : Int} (hx : 0 ≤ x ∧ x < 128) (h2 : am_PS q.1.1 q.1.2.1 b = some (Sum.inr (91, [aR 0 mb, aI 0]))) (h3 : am_PS q.1.1 q.1.2.1 mb = some (Sum.inl (10, 1, fun j => aI ([iI x].getD j 0)))) : ST n0 q V 0 b mb [x] := st_of ⟨asc_one hx, by show 1 < 200; decide⟩ h2 h3 (fun j h => by
  have e : j = 0 := by
    have : j < 1 := h
    omega
  subst e
  rfl)
theorem st_14 {n0 : Nat} {q : QQ} {V : VV} : ST n0 q V 0 14 31 [43] := st_1 (by decide) rfl rfl
theorem st_15 {n0 : Nat} {q : QQ} {V : VV} : ST n0 q V 0 15 32 [33] := st_1 (by decide) rfl rfl
theorem st_16 {n0 : Nat} {q : QQ} {V : VV} : ST n0 q V 0 16 33 [58] := st_1 (by decide) rfl rfl
theorem st_17 {n0 : Nat} {q : QQ} {V : VV} : ST n0 q V 0 17 34 [48] := st_1 (by decide) rfl rfl
theorem st_18 {n0 : Nat} {q : QQ} {V : VV} : ST n0 q V 0 18 35 [62] := st_1 (by decide) rfl rfl
theorem st_19 {n0 : Nat} {q : QQ} {V : VV} : ST n0 q V 0 19 36 [61] := st_1 (by decide) rfl rfl
theorem st_23 {n0 : Nat} {q : QQ} {V : VV} : ST n0 q V 0 23 40 [42] := st_1 (by decide) rfl rfl
theorem st_20_key : ∀ j : Nat, j < 8 → ([42, 46, 42, 46, 42, 46, 46, 42] : List Int32).getD j 0 = iI (([42, 46, 42, 46, 42, 46, 46, 42] : List Int).getD j 0) := by decide +kernel
theorem st_20_asc : asc [42, 46, 42, 46, 42, 46, 46, 42] := fun i => by
  have key : ∀ j : Nat, j < 8 → 0 ≤ ([42, 46, 42, 46, 42, 46, 46, 42] : List Int).getD j 0 ∧ ([42, 46, 42, 46, 42, 46, 46, 42] : List Int).getD j 0 < 128 := by decide
  by_cases c : i < 8
  · exact key i c
  · rw [List.getD_eq_getElem?_getD, List.getElem?_eq_none (by show 8 ≤ i; omega)]
    exact ⟨by decide, by decide⟩
theorem st_20 {n0 : Nat} {q : QQ} {V : VV} : ST n0 q V 0 20 37 [42, 46, 42, 46, 42, 46, 46, 42] := st_of ⟨st_20_asc, by show 8 < 200; decide⟩ rfl rfl (fun j h => congrArg aI (st_20_key j h))
theorem st_21_key : ∀ j : Nat, j < 6 → ([119, 105, 110, 100, 32, 45] : List Int32).getD j 0 = iI (([119, 105, 110, 100, 32, 45] : List Int).getD j 0) := by decide +kernel
theorem st_21_asc : asc [119, 105, 110, 100, 32, 45] := fun i => by
  have key : ∀ j : Nat, j < 6 → 0 ≤ ([119, 105, 110, 100, 32, 45] : List Int).getD j 0 ∧ ([119, 105, 110, 100, 32, 45] : List Int).getD j 0 < 128 := by decide
  by_cases c : i < 6
  · exact key i c
  · rw [List.getD_eq_getElem?_getD, List.getElem?_eq_none (by show 6 ≤ i; omega)]
    exact ⟨by decide, by decide⟩
theorem st_21 {n0 : Nat} {q : QQ} {V : VV} : ST n0 q V 0 21 38 [119, 105, 110, 100, 32, 45] := st_of ⟨st_21_asc, by show 6 < 200; decide⟩ rfl rfl (fun j h => congrArg aI (st_21_key j h))
theorem st_22_key : ∀ j : Nat, j < 8 → ([59, 103, 114, 111, 117, 110, 100, 32] : List Int32).getD j 0 = iI (([59, 103, 114, 111, 117, 110, 100, 32] : List Int).getD j 0) := by decide +kernel
theorem st_22_asc : asc [59, 103, 114, 111, 117, 110, 100, 32] := fun i => by
  have key : ∀ j : Nat, j < 8 → 0 ≤ ([59, 103, 114, 111, 117, 110, 100, 32] : List Int).getD j 0 ∧ ([59, 103, 114, 111, 117, 110, 100, 32] : List Int).getD j 0 < 128 := by decide
  by_cases c : i < 8
  · exact key i c
  · rw [List.getD_eq_getElem?_getD, List.getElem?_eq_none (by show 8 ≤ i; omega)]
    exact ⟨by decide, by decide⟩
theorem st_22 {n0 : Nat} {q : QQ} {V : VV} : ST n0 q V 0 22 39 [59, 103, 114, 111, 117, 110, 100, 32] := st_of ⟨st_22_asc, by show 8 < 200; decide⟩ rfl rfl (fun j h => congrArg aI (st_22_key j h))
theorem st_24_key : ∀ j : Nat, j < 6 → ([59, 115, 101, 110, 100, 32] : List Int32).getD j 0 = iI (([59, 115, 101, 110, 100, 32] : List Int).getD j 0) := by decide +kernel
theorem st_24_asc : asc [59, 115, 101, 110, 100, 32] := fun i => by
  have key : ∀ j : Nat, j < 6 → 0 ≤ ([59, 115, 101, 110, 100, 32] : List Int).getD j 0 ∧ ([59, 115, 101, 110, 100, 32] : List Int).getD j 0 < 128 := by decide
  by_cases c : i < 6
  · exact key i c
  · rw [List.getD_eq_getElem?_getD, List.getElem?_eq_none (by show 6 ≤ i; omega)]
    exact ⟨by decide, by decide⟩
theorem st_24 {n0 : Nat} {q : QQ} {V : VV} : ST n0 q V 0 24 41 [59, 115, 101, 110, 100, 32] := st_of ⟨st_24_asc, by show 6 < 200; decide⟩ rfl rfl (fun j h => congrArg aI (st_24_key j h))
