/-! the model reads a command -/
/-- what the model keeps while it reads the command k from p0 on: the parts F are behind it -/
def stC (V : VV) (T : Int → Int) (L k c0 p0 : Int) (F : List Int) (W : VV) (s : Int × Int) : Prop :=
  s = rsw T L F (0, p0) ∧ (∀ a b, ¬ ((a = 33 ∨ a = 43) ∧ b = 0) → W a b = V a b) ∧ (∀ j, ¬ (j = 18 ∨ j = 19 ∨ j = 23) → W 33 0 j = V 33 0 j) ∧ W 33 0 23 = k + 1 ∧ (∀ i, i < 4 * k → W 43 0 i = V 43 0 i) ∧ W 43 0 (4 * k) = c0 ∧
    ((runF T L F p0).1 → ∀ i : Nat, i < (runF T L F p0).2.2.length → W 43 0 (4 * k + 1 + i) = (runF T L F p0).2.2.getD i 0)
theorem runF_lit {T : Int → Int} {L : Int} : ∀ (G : List Int) (p : Int), (∀ j, j < G.length → ¬ isV (G.getD j 0)) → (runF T L G p).2.2 = [] := by
  intro G
  induction G with
  | nil => intro p _; rfl
  | cons c G ih =>
    intro p h
    by_cases k : okI T L c p
    · rw [runF_ok k]
      show cif (isV c) [valI T L c p] [] ++ (runF T L G (endI T L c p)).2.2 = []
      rw [cif_neg (show ¬ isV c from h 0 (Nat.succ_pos _)), ih _ (fun j hj => h (j + 1) (Nat.succ_lt_succ hj))]
      rfl
    · rw [runF_no k]
section
variable {V W : VV} {T : Int → Int} {L k c0 p0 v c : Int} {F G : List Int} {s : Int × Int}
theorem stC_b (st : stC V T L k c0 p0 F W s) (hp : 0 ≤ p0 ∧ p0 ≤ L) : (s.1 = 0 ∨ s.1 = 1) ∧ 0 ≤ s.2 ∧ s.2 ≤ L := by
  rw [st.1]
  exact rsw_b (Or.inl rfl) hp
theorem rsw_0 {T : Int → Int} {L p0 : Int} {F : List Int} : rsw T L F (0, p0) = (b2i (¬ (runF T L F p0).1), (runF T L F p0).2.1) := cif_pos rfl
theorem stC_skip (hG : ∀ j, j < G.length → ¬ isV (G.getD j 0)) (st : stC V T L k c0 p0 F W s) : stC V T L k c0 p0 (F ++ G) W (rsw T L G s) := by
  obtain ⟨h1, h2, h3, h4, h5, h6, h7⟩ := st
  obtain ⟨a1, a2, a3⟩ := runF_app (T := T) (L := L) F G p0
  refine ⟨by rw [h1, rsw_app], h2, h3, h4, h5, h6, fun z => ?_⟩
  have z1 := (a1.mp z).1
  rw [(a2 z1).2, runF_lit G _ hG, List.append_nil]
  exact h7 z1
theorem stC_num {m : Int} (hm : 4 * k + 1 + cntV F = m) (hc : isV c) (hv : s.1 = 0 → okI T L c s.2 → v = valI T L c s.2) (st : stC V T L k c0 p0 F W s) : stC V T L k c0 p0 (F ++ [c]) (upV W 43 0 m v) (rsw T L [c] s) := by
  obtain ⟨h1, h2, h3, h4, h5, h6, h7⟩ := st
  obtain ⟨a1, a2, a3⟩ := runF_app (T := T) (L := L) F [c] p0
  have cn := cntV_nn F
  have e43 : ∀ i, upV W 43 0 m v 43 0 i = if i = m then v else W 43 0 i := fun i => rfl
  refine ⟨by rw [h1, rsw_app], fun a b h => ?_, fun j h => h3 j h, h4, fun i hi => ?_, ?_, fun z => ?_⟩
  · rw [upV_off2 (by omega)]
    exact h2 a b h
  · rw [e43, if_neg (by omega)]
    exact h5 i hi
  · rw [e43, if_neg (by omega)]
    exact h6
  · obtain ⟨z1, z2⟩ := a1.mp z
    rw [(a2 z1).2]
    have hl := runF_len F p0 z1
    have hs : s = (0, (runF T L F p0).2.1) := by
      rw [h1, rsw_0, b2i_neg (fun y => y z1)]
    have ok : okI T L c (runF T L F p0).2.1 := by
      refine Classical.byContradiction fun y => ?_
      rw [runF_no y] at z2
      exact z2
    have hv2 := hv (by rw [hs]) (by rw [hs]; exact ok)
    rw [hs] at hv2
    have e2 : (runF T L [c] (runF T L F p0).2.1).2.2 = [valI T L c (runF T L F p0).2.1] := by
      rw [runF_ok ok]
      show cif (isV c) [_] [] ++ [] = _
      rw [cif_pos hc]
      rfl
    rw [e2]
    intro i hi
    rw [e43]
    have hi2 : i < (runF T L F p0).2.2.length + 1 := by
      rw [List.length_append] at hi
      exact hi
    by_cases y : i < (runF T L F p0).2.2.length
    · rw [if_neg (by omega), h7 z1 i y]
      simp [List.getD_eq_getElem?_getD, List.getElem?_append_left y]
    · have : i = (runF T L F p0).2.2.length := by omega
      rw [if_pos (by omega), this]
      simp [List.getD_eq_getElem?_getD]
      exact hv2
theorem stC_TX (tx : TX V T L) (st : stC V T L k c0 p0 F W s) : TX W T L := TX_off tx (st.2.2.1 17 (by omega)) (st.2.1 42 0 (by omega))
end
/-- the object b is a text of the letters G -/
def mstrO (q : QQ) (b : Nat) (G : List Int) : Prop := ∃ (b' : Nat) (g : Nat → AV), strO q b b' G.length g ∧ ∀ j, j < G.length → g j = aI (iI (G.getD j 0)) ∧ (0 ≤ G.getD j 0 ∧ G.getD j 0 < 128) ∧ ¬ isV (G.getD j 0)
theorem mstr_lit {q : QQ} {b : Nat} {G : List Int} (h : mstrO q b G) : ∀ j, j < G.length → ¬ isV (G.getD j 0) := by
  obtain ⟨b', g, h1, h2⟩ := h
  exact fun j hj => (h2 j hj).2.2
theorem mstr_13 (q : QQ) : mstrO q 13 [103, 114, 111, 117, 110, 100, 32] := by
  refine ⟨28, _, ⟨rfl, rfl, by decide⟩, fun j hj => ?_⟩
  have key : ∀ j, j < ([103, 114, 111, 117, 110, 100, 32] : List Int).length → (([103, 114, 111, 117, 110, 100, 32] : List Int32).getD j 0 = iI (([103, 114, 111, 117, 110, 100, 32] : List Int).getD j 0)) ∧ (0 ≤ ([103, 114, 111, 117, 110, 100, 32] : List Int).getD j 0 ∧ ([103, 114, 111, 117, 110, 100, 32] : List Int).getD j 0 < 128) ∧ ¬ (([103, 114, 111, 117, 110, 100, 32] : List Int).getD j 0 = 68 ∨ ([103, 114, 111, 117, 110, 100, 32] : List Int).getD j 0 = 76 ∨ ([103, 114, 111, 117, 110, 100, 32] : List Int).getD j 0 = 78 ∨ ([103, 114, 111, 117, 110, 100, 32] : List Int).getD j 0 = 87) := by decide
  exact ⟨congrArg aI (key j hj).1, (key j hj).2⟩
theorem mstr_14 (q : QQ) : mstrO q 14 [42] := by
  refine ⟨29, _, ⟨rfl, rfl, by decide⟩, fun j hj => ?_⟩
  have key : ∀ j, j < ([42] : List Int).length → (([42] : List Int32).getD j 0 = iI (([42] : List Int).getD j 0)) ∧ (0 ≤ ([42] : List Int).getD j 0 ∧ ([42] : List Int).getD j 0 < 128) ∧ ¬ (([42] : List Int).getD j 0 = 68 ∨ ([42] : List Int).getD j 0 = 76 ∨ ([42] : List Int).getD j 0 = 78 ∨ ([42] : List Int).getD j 0 = 87) := by decide
  exact ⟨congrArg aI (key j hj).1, (key j hj).2⟩
theorem mstr_15 (q : QQ) : mstrO q 15 [116, 111, 119, 101, 114, 32] := by
  refine ⟨30, _, ⟨rfl, rfl, by decide⟩, fun j hj => ?_⟩
  have key : ∀ j, j < ([116, 111, 119, 101, 114, 32] : List Int).length → (([116, 111, 119, 101, 114, 32] : List Int32).getD j 0 = iI (([116, 111, 119, 101, 114, 32] : List Int).getD j 0)) ∧ (0 ≤ ([116, 111, 119, 101, 114, 32] : List Int).getD j 0 ∧ ([116, 111, 119, 101, 114, 32] : List Int).getD j 0 < 128) ∧ ¬ (([116, 111, 119, 101, 114, 32] : List Int).getD j 0 = 68 ∨ ([116, 111, 119, 101, 114, 32] : List Int).getD j 0 = 76 ∨ ([116, 111, 119, 101, 114, 32] : List Int).getD j 0 = 78 ∨ ([116, 111, 119, 101, 114, 32] : List Int).getD j 0 = 87) := by decide
  exact ⟨congrArg aI (key j hj).1, (key j hj).2⟩
theorem mstr_16 (q : QQ) : mstrO q 16 [43] := by
  refine ⟨31, _, ⟨rfl, rfl, by decide⟩, fun j hj => ?_⟩
  have key : ∀ j, j < ([43] : List Int).length → (([43] : List Int32).getD j 0 = iI (([43] : List Int).getD j 0)) ∧ (0 ≤ ([43] : List Int).getD j 0 ∧ ([43] : List Int).getD j 0 < 128) ∧ ¬ (([43] : List Int).getD j 0 = 68 ∨ ([43] : List Int).getD j 0 = 76 ∨ ([43] : List Int).getD j 0 = 78 ∨ ([43] : List Int).getD j 0 = 87) := by decide
  exact ⟨congrArg aI (key j hj).1, (key j hj).2⟩
theorem mstr_17 (q : QQ) : mstrO q 17 [33] := by
  refine ⟨32, _, ⟨rfl, rfl, by decide⟩, fun j hj => ?_⟩
  have key : ∀ j, j < ([33] : List Int).length → (([33] : List Int32).getD j 0 = iI (([33] : List Int).getD j 0)) ∧ (0 ≤ ([33] : List Int).getD j 0 ∧ ([33] : List Int).getD j 0 < 128) ∧ ¬ (([33] : List Int).getD j 0 = 68 ∨ ([33] : List Int).getD j 0 = 76 ∨ ([33] : List Int).getD j 0 = 78 ∨ ([33] : List Int).getD j 0 = 87) := by decide
  exact ⟨congrArg aI (key j hj).1, (key j hj).2⟩
theorem mstr_18 (q : QQ) : mstrO q 18 [109, 111, 111, 100, 32] := by
  refine ⟨33, _, ⟨rfl, rfl, by decide⟩, fun j hj => ?_⟩
  have key : ∀ j, j < ([109, 111, 111, 100, 32] : List Int).length → (([109, 111, 111, 100, 32] : List Int32).getD j 0 = iI (([109, 111, 111, 100, 32] : List Int).getD j 0)) ∧ (0 ≤ ([109, 111, 111, 100, 32] : List Int).getD j 0 ∧ ([109, 111, 111, 100, 32] : List Int).getD j 0 < 128) ∧ ¬ (([109, 111, 111, 100, 32] : List Int).getD j 0 = 68 ∨ ([109, 111, 111, 100, 32] : List Int).getD j 0 = 76 ∨ ([109, 111, 111, 100, 32] : List Int).getD j 0 = 78 ∨ ([109, 111, 111, 100, 32] : List Int).getD j 0 = 87) := by decide
  exact ⟨congrArg aI (key j hj).1, (key j hj).2⟩
theorem mstr_19 (q : QQ) : mstrO q 19 [119, 105, 110, 100, 32] := by
  refine ⟨34, _, ⟨rfl, rfl, by decide⟩, fun j hj => ?_⟩
  have key : ∀ j, j < ([119, 105, 110, 100, 32] : List Int).length → (([119, 105, 110, 100, 32] : List Int32).getD j 0 = iI (([119, 105, 110, 100, 32] : List Int).getD j 0)) ∧ (0 ≤ ([119, 105, 110, 100, 32] : List Int).getD j 0 ∧ ([119, 105, 110, 100, 32] : List Int).getD j 0 < 128) ∧ ¬ (([119, 105, 110, 100, 32] : List Int).getD j 0 = 68 ∨ ([119, 105, 110, 100, 32] : List Int).getD j 0 = 76 ∨ ([119, 105, 110, 100, 32] : List Int).getD j 0 = 78 ∨ ([119, 105, 110, 100, 32] : List Int).getD j 0 = 87) := by decide
  exact ⟨congrArg aI (key j hj).1, (key j hj).2⟩
theorem mstr_20 (q : QQ) : mstrO q 20 [115, 101, 110, 100, 32] := by
  refine ⟨35, _, ⟨rfl, rfl, by decide⟩, fun j hj => ?_⟩
  have key : ∀ j, j < ([115, 101, 110, 100, 32] : List Int).length → (([115, 101, 110, 100, 32] : List Int32).getD j 0 = iI (([115, 101, 110, 100, 32] : List Int).getD j 0)) ∧ (0 ≤ ([115, 101, 110, 100, 32] : List Int).getD j 0 ∧ ([115, 101, 110, 100, 32] : List Int).getD j 0 < 128) ∧ ¬ (([115, 101, 110, 100, 32] : List Int).getD j 0 = 68 ∨ ([115, 101, 110, 100, 32] : List Int).getD j 0 = 76 ∨ ([115, 101, 110, 100, 32] : List Int).getD j 0 = 78 ∨ ([115, 101, 110, 100, 32] : List Int).getD j 0 = 87) := by decide
  exact ⟨congrArg aI (key j hj).1, (key j hj).2⟩
theorem mstr_21 (q : QQ) : mstrO q 21 [62] := by
  refine ⟨36, _, ⟨rfl, rfl, by decide⟩, fun j hj => ?_⟩
  have key : ∀ j, j < ([62] : List Int).length → (([62] : List Int32).getD j 0 = iI (([62] : List Int).getD j 0)) ∧ (0 ≤ ([62] : List Int).getD j 0 ∧ ([62] : List Int).getD j 0 < 128) ∧ ¬ (([62] : List Int).getD j 0 = 68 ∨ ([62] : List Int).getD j 0 = 76 ∨ ([62] : List Int).getD j 0 = 78 ∨ ([62] : List Int).getD j 0 = 87) := by decide
  exact ⟨congrArg aI (key j hj).1, (key j hj).2⟩
theorem mstr_22 (q : QQ) : mstrO q 22 [58] := by
  refine ⟨37, _, ⟨rfl, rfl, by decide⟩, fun j hj => ?_⟩
  have key : ∀ j, j < ([58] : List Int).length → (([58] : List Int32).getD j 0 = iI (([58] : List Int).getD j 0)) ∧ (0 ≤ ([58] : List Int).getD j 0 ∧ ([58] : List Int).getD j 0 < 128) ∧ ¬ (([58] : List Int).getD j 0 = 68 ∨ ([58] : List Int).getD j 0 = 76 ∨ ([58] : List Int).getD j 0 = 78 ∨ ([58] : List Int).getD j 0 = 87) := by decide
  exact ⟨congrArg aI (key j hj).1, (key j hj).2⟩
section
variable {V W : VV} {T : Int → Int} {L k c0 p0 : Int} {F G : List Int} {s : Int × Int} {d : Nat} {q : QQ} {i : Int} {l2 : Option AV}
theorem ru_skip {pc n1 n2 b : Nat} (tx : TX V T L) (hp : 0 ≤ p0 ∧ p0 ≤ L) (st : stC V T L k c0 p0 F W s) (hs : mstrO q b G) (h1 : am_cd 294 pc = i_aload 0 n1) (h2 : am_cd 294 n1 = i_push (aR 0 b) n2) (h3 : am_cd 294 n2 = i_call 296 1 9) :
    RUN (d + 5) 294 (pc, [sR 33 0, sI i, l2], []) (HM q (psV W s.1 s.2)) = RUN (d + 5) 294 (n2 + 3, [sR 33 0, sI i, l2], []) (HM q (psV W (rsw T L G s).1 (rsw T L G s).2)) := by
  obtain ⟨b', g, g1, g2⟩ := hs
  obtain ⟨w1, w2⟩ := stC_b st hp
  have e := s_296 (d := d) g1 g2 (stC_TX tx st) w2 w1
  exact Eq.trans (k_aload h1 rfl) (Eq.trans (k_push h2) (Eq.trans (RUN_ci h3 rfl rfl e (qle_refl _)) rfl))
theorem ru_num {pc n1 n2 n3 n4 n5 n6 n7 n9 : Nat} {v1 v2 : Int32} {m n c : Int} (tx : TX V T L) (hp : 0 ≤ p0 ∧ p0 ≤ L) (st : stC V T L k c0 p0 F W s) (hc : n = 1 ∧ c = 68 ∨ n = 2 ∧ c = 78) (h1 : am_cd 294 pc = i_aload 0 n1) (h2 : am_cd 294 n1 = i_getf 9 22 n2) (h3 : am_cd 294 n2 = i_iload 1 n3) (h4 : am_cd 294 n3 = i_push (aI v1) n4) (hm : v1 = iI m) (h5 : am_cd 294 n4 = i_bin (fun a b => a + b) n5) (h6 : am_cd 294 n5 = i_aload 0 n6) (h7 : am_cd 294 n6 = i_push (aI v2) n7) (hn : v2 = iI n) (h8 : am_cd 294 n7 = i_call 297 1 9) (h9 : am_cd 294 (n7 + 3) = i_iast n9) (him : 0 ≤ i + m ∧ i + m < 240) :
    ∃ v, RUN (d + 5) 294 (pc, [sR 33 0, sI i, l2], []) (HM q (psV W s.1 s.2)) = RUN (d + 5) 294 (n9, [sR 33 0, sI i, l2], []) (HM q (psV (upV W 43 0 (i + m) v) (rsw T L [c] s).1 (rsw T L [c] s).2)) ∧ (s.1 = 0 → okI T L c s.2 → v = valI T L c s.2) := by
  obtain ⟨w1, w2⟩ := stC_b st hp
  have e : ∃ v, RUN (d + 4) 297 (am_en 297 [aR 33 0, aI (iI n)]) (HM q (psV W s.1 s.2)) = rI v (HM q (psV W (rsw T L [c] s).1 (rsw T L [c] s).2)) ∧ (s.1 = 0 → okI T L c s.2 → v = valI T L c s.2) := by
    rcases hc with ⟨rfl, rfl⟩ | ⟨rfl, rfl⟩
    · exact s_297_1 (d := d + 2) (q := q) (stC_TX tx st) w2 w1
    · exact s_297_2 (d := d + 2) (q := q) (stC_TX tx st) w2 w1
  obtain ⟨v, e1, e2⟩ := e
  refine ⟨v, ?_, e2⟩
  refine Eq.trans (k_aload h1 rfl) (Eq.trans (k_getfr h2 rfl rfl) (Eq.trans (k_iload h3 rfl) (Eq.trans (k_pushi m h4 hm) (Eq.trans (k_bin h5 (iI_add _ _)) (Eq.trans (k_aload h6 rfl) (Eq.trans (k_pushi n h7 hn) (Eq.trans (RUN_ci h8 rfl rfl e1 (qle_refl _)) (Eq.trans (k_iast h9 rfl rfl him) ?_))))))))
  rw [psV_43]
end
