/-! the machine's own texts: a character, a number are appended -/
/-- what stands in a row -/
def TX (V : VV) (m : Nat) (L : List Int) : Prop := ∀ i : Nat, i < L.length → V 46 m i = L.getD i 0
def BT (n0 : Nat) (q : QQ) (V : VV) (b : Nat) (L : List Int) : Prop := ∃ m c, BD n0 q V b m c L.length ∧ TX V m L
theorem getD_app1 {L K : List Int} {i : Nat} (h : i < L.length) : (L ++ K).getD i 0 = L.getD i 0 := by
  rw [List.getD_eq_getElem?_getD, List.getD_eq_getElem?_getD, List.getElem?_append_left h]
theorem getD_app2 {L K : List Int} {i : Nat} (h : L.length ≤ i) : (L ++ K).getD i 0 = K.getD (i - L.length) 0 := by
  rw [List.getD_eq_getElem?_getD, List.getD_eq_getElem?_getD, List.getElem?_append_right h]
section
variable {d n0 b m c : Nat} {q : QQ} {V : VV} {n : Int} {L : List Int}
theorem c_354 {x : Int} (h : BT n0 q V b L) (hx : 0 ≤ x ∧ x < 128) (hl : L.length < 70) : ∃ q' V', RUN (d + 3) 354 (am_en 354 [aR 46 b, aI (iI x)]) (HM q V) = some (Sum.inl (some (aR 46 b)), HM q' V') ∧ BT n0 q' V' b (L ++ [x]) ∧ FS n0 1 200 q V q' V' := by
  obtain ⟨m, c, hB, hT⟩ := h
  obtain ⟨⟨hb, hm⟩, ⟨v1, v3⟩, ⟨bm, b1, b2, b3, b4, b5⟩, ⟨n1, n2, n3⟩, hf⟩ := id hB
  obtain ⟨q', V', m', c', e355, hB', hc', hk, hx', fr⟩ := c_355 (d := d) (x1 := (L.length : Int) + 1) hB (by omega)
  obtain ⟨⟨hb', hm'⟩, ⟨v1', v3'⟩, ⟨bm', b1', b2', b3', b4', b5'⟩, ⟨n1', n2', n3'⟩, hf'⟩ := id hB'
  have wm : ∀ j : Int, upV (upV V' 46 b 3 ((L.length : Int) + 1)) 46 m' L.length x 46 m' j = if j = (L.length : Int) then x else V' 46 m' j := fun j => by
    rw [upV_at, upV_off2 (by omega)]
  have wb : ∀ j : Int, upV (upV V' 46 b 3 ((L.length : Int) + 1)) 46 m' L.length x 46 b j = if j = 3 then (L.length : Int) + 1 else V' 46 b j := fun j => by
    rw [upV_off2 (by omega), upV_at]
  refine ⟨q', upV (upV V' 46 b 3 ((L.length : Int) + 1)) 46 m' L.length x, ?_, ⟨m', c', ⟨⟨hb', hm'⟩, ⟨?_, ?_⟩, ⟨bm', b1', b2', b3', b4', b5'⟩, ⟨?_, ?_, n3'⟩, fun j j1 j2 => ?_⟩, fun i hi => ?_⟩, (fr.trans ((FS.st b1').trans (FS.st b2'))).mono (Nat.le_refl _) (Nat.le_refl _) (Nat.le_refl _)⟩
  · refine (show RUN (d + 3) 354 (0, [sR 46 b, sI x], []) (HM q V) = _ from ?_)
    refine Eq.trans (k_aload rfl rfl) ?_
    refine Eq.trans (k_aload rfl rfl) ?_
    refine Eq.trans (k_getfi 3 rfl rfl hb rfl) ?_
    rw [v3]
    refine Eq.trans (k_pushi (1) rfl rfl) ?_
    refine Eq.trans (k_bin rfl (iI_add _ _)) ?_
    refine Eq.trans (RUN_ci rfl (c1_46 hb rfl) rfl e355 fr.qle) ?_
    refine Eq.trans (k_aload rfl rfl) ?_
    refine Eq.trans (RUN_ci rfl (c0_46 hb' rfl) rfl (c_360 hb' rfl v1') (qle_refl _)) ?_
    refine Eq.trans (Eq.trans (k_ifc ((1 : Int) = 0) rfl (iI_eq0 ⟨by decide, by decide⟩)) (cif_neg (by decide))) ?_
    refine Eq.trans (k_iload rfl rfl) ?_
    refine Eq.trans (RUN_ci rfl rfl rfl (c_361 hx) (qle_refl _)) ?_
    refine Eq.trans (Eq.trans (k_ifc ((1 : Int) = 0) rfl (iI_eq0 ⟨by decide, by decide⟩)) (cif_neg (by decide))) ?_
    refine Eq.trans (k_aload rfl rfl) ?_
    refine Eq.trans (k_getfr rfl hb' rfl) ?_
    refine Eq.trans (k_aload rfl rfl) ?_
    refine Eq.trans (k_dupR rfl) ?_
    refine Eq.trans (k_getfi 3 rfl rfl hb' rfl) ?_
    rw [v3']
    refine Eq.trans (k_dup_x1 rfl) ?_
    refine Eq.trans (k_pushi (1) rfl rfl) ?_
    refine Eq.trans (k_bin rfl (iI_add _ _)) ?_
    refine Eq.trans (k_putfi 3 rfl rfl hb' rfl trivial) ?_
    refine Eq.trans (k_iload rfl rfl) ?_
    refine Eq.trans (k_un rfl (i2b_asc hx)) ?_
    refine Eq.trans (k_bast46 rfl hm' (by omega) (by omega) hx) ?_
    refine Eq.trans (k_goto rfl) ?_
    refine Eq.trans (k_aload rfl rfl) ?_
    exact k_aretR rfl
  · rw [wb, if_neg (by decide)]
    exact v1'
  · rw [wb, if_pos rfl, List.length_append]
    rfl
  · exact Int.ofNat_nonneg _
  · rw [List.length_append]
    show ((L.length + 1 : Nat) : Int) ≤ _
    omega
  · rw [wm]
    split
    · omega
    · exact hf' j j1 j2
  · rw [wm]
    rw [List.length_append] at hi
    have hi : i < L.length + 1 := hi
    by_cases e : i = L.length
    · rw [if_pos (by omega), getD_app2 (by omega), e, Nat.sub_self]
      rfl
    · rw [if_neg (by omega), getD_app1 (by omega), hk i (by omega) (by omega)]
      exact hT i (by omega)
theorem c_353 {x : Int} (h : BT n0 q V b L) (hx : 0 ≤ x ∧ x < 128) (hl : L.length < 70) : ∃ q' V', RUN (d + 4) 353 (am_en 353 [aR 46 b, aI (iI x)]) (HM q V) = some (Sum.inl (some (aR 46 b)), HM q' V') ∧ BT n0 q' V' b (L ++ [x]) ∧ FS n0 1 200 q V q' V' := by
  obtain ⟨q', V', e, h', fr⟩ := c_354 (d := d) h hx hl
  obtain ⟨m, c, ⟨⟨hb, hm⟩, _⟩, _⟩ := h
  refine ⟨q', V', ?_, h', fr⟩
  refine (show RUN (d + 4) 353 (0, [sR 46 b, sI x], []) (HM q V) = _ from ?_)
  refine Eq.trans (k_aload rfl rfl) ?_
  refine Eq.trans (k_iload rfl rfl) ?_
  refine Eq.trans (RUN_ci rfl (c1_46 hb rfl) rfl e fr.qle) ?_
  refine Eq.trans (k_popR rfl) ?_
  refine Eq.trans (k_aload rfl rfl) ?_
  exact k_aretR rfl
/-- how many digits -/
def numS (x : Int) : Int := if x < 10 then 1 else if x < 100 then 2 else 3
theorem sz_16 {x p i : Int} (hx : 0 ≤ x ∧ x < 1000) (hp : -100000 ≤ p ∧ p < 0) (hi : 0 ≤ i ∧ i < 10) : RUN d 385 (16, [sI (-x), sI 0, sI p, sI i], []) (HM q V) = cif (-x ≤ p) (RUN d 385 (16, [sI (-x), sI 0, sI (10 * p), sI (i + 1)], []) (HM q V)) (rI (i + 0) (HM q V)) := by
  refine Eq.trans (k_iload rfl rfl) ?_
  refine Eq.trans (k_pushi (10) rfl rfl) ?_
  refine Eq.trans (Eq.trans (k_icmpc ((10 : Int) ≤ i) rfl (iI_le ⟨by decide, by decide⟩ (by omega))) (cif_neg (by omega))) ?_
  refine Eq.trans (k_iload rfl rfl) ?_
  refine Eq.trans (k_iload rfl rfl) ?_
  refine Eq.trans (k_icmpc (-x ≤ p) rfl (iI_le (by omega) (by omega))) ?_
  refine cif_eq (fun c => ?_) (fun c => ?_)
  · rw [cif_pos c]
    refine Eq.trans (k_pushi (10) rfl rfl) ?_
    refine Eq.trans (k_iload rfl rfl) ?_
    refine Eq.trans (k_bin rfl (iI_mul _ _)) ?_
    refine Eq.trans (k_store rfl) ?_
    refine Eq.trans (k_iinc 1 rfl rfl rfl) ?_
    exact k_goto rfl
  · rw [cif_neg c]
    refine Eq.trans (k_iload rfl rfl) ?_
    refine Eq.trans (k_iload rfl rfl) ?_
    refine Eq.trans (k_bin rfl (iI_add _ _)) ?_
    exact k_iret rfl trivial
theorem c_385 {x : Int} (hx : 0 ≤ x ∧ x < 1000) : RUN d 385 (am_en 385 [aI (iI x)]) (HM q V) = rI (numS x) (HM q V) := by
  refine (show RUN d 385 (0, [sI x, none, none, none], []) (HM q V) = _ from ?_)
  refine Eq.trans (k_pushi (1) rfl rfl) ?_
  refine Eq.trans (k_store rfl) ?_
  refine Eq.trans (k_iload rfl rfl) ?_
  refine Eq.trans (Eq.trans (k_ifc (x < 0) rfl (iI_lt0 (by omega))) (cif_neg (by omega))) ?_
  refine Eq.trans (k_pushi (0) rfl rfl) ?_
  refine Eq.trans (k_store rfl) ?_
  refine Eq.trans (k_iload rfl rfl) ?_
  refine Eq.trans (k_un rfl (iI_neg _)) ?_
  refine Eq.trans (k_store rfl) ?_
  refine Eq.trans (k_pushi (-10) rfl rfl) ?_
  refine Eq.trans (k_store rfl) ?_
  refine Eq.trans (k_pushi (1) rfl rfl) ?_
  refine Eq.trans (k_store rfl) ?_
  refine Eq.trans (sz_16 hx (by decide) (by decide)) ?_
  unfold numS
  by_cases c1 : x < 10
  · rw [cif_neg (by omega), if_pos c1]
    rfl
  · rw [cif_pos (by omega), if_neg c1]
    refine Eq.trans (sz_16 hx (by decide) (by decide)) ?_
    by_cases c2 : x < 100
    · rw [cif_neg (by omega), if_pos c2]
      rfl
    · rw [cif_pos (by omega), if_neg c2]
      refine Eq.trans (sz_16 hx (by decide) (by decide)) ?_
      rw [cif_neg (by omega)]
      rfl
theorem div100 {x : Int} (hx : 0 ≤ x ∧ x < 1000) : iI (-x) / iI 100 = iI (-(x / 100)) := by
  have key : ∀ k : Nat, k < 1000 → iI (-(k : Int)) / iI 100 = iI (-((k : Int) / 100)) := by decide +kernel
  have := key x.toNat (by omega)
  rw [show (x.toNat : Int) = x by omega] at this
  exact this
theorem dig1 {e : Int} (h : 0 ≤ e ∧ e < 100) : aI (nI (48 + e.toNat % 10)) = aI (iI (48 + e % 10)) := by
  rw [← iI_ofNat, show (((48 + e.toNat % 10 : Nat)) : Int) = 48 + e % 10 by omega]
theorem dig2 {e : Int} (h : 0 ≤ e ∧ e < 100) : aI (nI (48 + e.toNat / 10)) = aI (iI (48 + e / 10)) := by
  rw [← iI_ofNat, show (((48 + e.toNat / 10 : Nat)) : Int) = 48 + e / 10 by omega]
/-- the end of it: one or two digits -/
theorem ch_72 {x p : Int} {l3 l4 : Option AV} {l1 : Option AV} (hm : q.1.2.2 m = some (Sum.inl (7, c, fun _ => aN))) (hc : c < 200) (hx : 0 ≤ x ∧ x < 100) (hp : 1 ≤ p ∧ (¬ x < 10 → 2 ≤ p) ∧ p ≤ c) : RUN d 386 (72, [sI (-x), l1, sR 46 m, l3, l4, sI p, sI 0], []) (HM q V) = cif (x < 10) (rI (p + -1) (HM q (upV V 46 m (p + -1) (48 + x % 10)))) (rI (p + -1 + -1) (HM q (upV (upV V 46 m (p + -1) (48 + x % 10)) 46 m (p + -1 + -1) (48 + x / 10)))) := by
  refine Eq.trans (k_aload rfl rfl) ?_
  refine Eq.trans (k_iinc (-1) rfl rfl rfl) ?_
  refine Eq.trans (k_iload rfl rfl) ?_
  refine Eq.trans (k_push rfl) ?_
  refine Eq.trans (k_iload rfl rfl) ?_
  refine Eq.trans (k_un rfl (iI_neg _)) ?_
  rw [show - -x = x by omega]
  refine Eq.trans (k_bald0 (b := 42) rfl rfl (by decide) hx (dig1 hx)) ?_
  refine Eq.trans (k_bast46 rfl hm (by omega) (by omega) (by omega)) ?_
  refine Eq.trans (k_iload rfl rfl) ?_
  refine Eq.trans (k_pushi (-9) rfl rfl) ?_
  have e10 : ∀ (a b : Option (Out × AH)), cif (-9 ≤ -x) a b = cif (x < 10) a b := fun a b => by
    by_cases z : x < 10
    · rw [cif_pos z, cif_pos (by omega)]
    · rw [cif_neg z, cif_neg (by omega)]
  refine Eq.trans (k_icmpc (-9 ≤ -x) rfl (iI_le ⟨by decide, by decide⟩ (by omega))) ?_
  rw [e10]
  have fin : ∀ (W : VV) (p : Int), RUN d 386 (104, [sI (-x), l1, sR 46 m, l3, l4, sI p, sI 0], []) (HM q W) = rI p (HM q W) := by
    intro W p
    refine Eq.trans (k_iload rfl rfl) ?_
    refine Eq.trans (Eq.trans (k_ifc ((0 : Int) = 0) rfl (iI_eq0 ⟨by decide, by decide⟩)) (cif_pos rfl)) ?_
    refine Eq.trans (k_iload rfl rfl) ?_
    exact k_iret rfl trivial
  refine cif_eq (fun z => ?_) (fun z => ?_)
  · rw [cif_pos z]
    exact fin _ _
  · rw [cif_neg z]
    refine Eq.trans (k_aload rfl rfl) ?_
    refine Eq.trans (k_iinc (-1) rfl rfl rfl) ?_
    refine Eq.trans (k_iload rfl rfl) ?_
    refine Eq.trans (k_push rfl) ?_
    refine Eq.trans (k_iload rfl rfl) ?_
    refine Eq.trans (k_un rfl (iI_neg _)) ?_
    rw [show - -x = x by omega]
    refine Eq.trans (k_bald0 (b := 43) rfl rfl (by decide) hx (dig2 hx)) ?_
    refine Eq.trans (k_bast46 rfl hm (by omega) (by omega) (by omega)) ?_
    exact fin _ _
theorem ch_22 {x p : Int} {l3 l4 : Option AV} {l1 : Option AV} (hm : q.1.2.2 m = some (Sum.inl (7, c, fun _ => aN))) (hc : c < 200) (hx : 100 ≤ x ∧ x < 1000) (hp : 2 ≤ p ∧ p ≤ c) : RUN d 386 (22, [sI (-x), l1, sR 46 m, l3, l4, sI p, sI 0], []) (HM q V) = RUN d 386 (22, [sI (-(x / 100)), l1, sR 46 m, sI (-(x / 100)), sI (x % 100), sI (p + -1 + -1), sI 0], []) (HM q (upV (upV V 46 m (p + -1) (48 + x % 100 % 10)) 46 m (p + -1 + -1) (48 + x % 100 / 10))) := by
  refine Eq.trans (k_iload rfl rfl) ?_
  refine Eq.trans (k_pushi (-100) rfl rfl) ?_
  refine Eq.trans (Eq.trans (k_icmpc (-100 < -x) rfl (iI_lt ⟨by decide, by decide⟩ (by omega))) (cif_neg (by omega))) ?_
  refine Eq.trans (k_iload rfl rfl) ?_
  refine Eq.trans (k_pushi (100) rfl rfl) ?_
  refine Eq.trans (k_div rfl (div100 (by omega)) (by decide)) ?_
  refine Eq.trans (k_store rfl) ?_
  refine Eq.trans (k_iload rfl rfl) ?_
  refine Eq.trans (k_pushi (100) rfl rfl) ?_
  refine Eq.trans (k_bin rfl (iI_mul _ _)) ?_
  refine Eq.trans (k_iload rfl rfl) ?_
  refine Eq.trans (k_bin rfl (iI_sub _ _)) ?_
  refine Eq.trans (k_store rfl) ?_
  rw [show -(x / 100) * 100 - -x = x % 100 by omega]
  refine Eq.trans (k_iload rfl rfl) ?_
  refine Eq.trans (k_store rfl) ?_
  refine Eq.trans (k_aload rfl rfl) ?_
  refine Eq.trans (k_iinc (-1) rfl rfl rfl) ?_
  refine Eq.trans (k_iload rfl rfl) ?_
  refine Eq.trans (k_push rfl) ?_
  refine Eq.trans (k_iload rfl rfl) ?_
  refine Eq.trans (k_bald0 (b := 42) rfl rfl (by decide) (by omega) (dig1 (by omega))) ?_
  refine Eq.trans (k_bast46 rfl hm (by omega) (by omega) (by omega)) ?_
  refine Eq.trans (k_aload rfl rfl) ?_
  refine Eq.trans (k_iinc (-1) rfl rfl rfl) ?_
  refine Eq.trans (k_iload rfl rfl) ?_
  refine Eq.trans (k_push rfl) ?_
  refine Eq.trans (k_iload rfl rfl) ?_
  refine Eq.trans (k_bald0 (b := 43) rfl rfl (by decide) (by omega) (dig2 (by omega))) ?_
  refine Eq.trans (k_bast46 rfl hm (by omega) (by omega) (by omega)) ?_
  exact k_goto rfl
theorem ch_22e {x p : Int} {l3 l4 : Option AV} {l1 : Option AV} (hx : 0 ≤ x ∧ x < 100) : RUN d 386 (22, [sI (-x), l1, sR 46 m, l3, l4, sI p, sI 0], []) (HM q V) = RUN d 386 (72, [sI (-x), l1, sR 46 m, l3, l4, sI p, sI 0], []) (HM q V) := by
  refine Eq.trans (k_iload rfl rfl) ?_
  refine Eq.trans (k_pushi (-100) rfl rfl) ?_
  exact Eq.trans (k_icmpc (-100 < -x) rfl (iI_lt ⟨by decide, by decide⟩ (by omega))) (cif_pos (by omega))
theorem c_386 {x p : Int} (hm : q.1.2.2 m = some (Sum.inl (7, c, fun _ => aN))) (hc : c < 200) (hx : 0 ≤ x ∧ x < 1000) (hp : numS x ≤ p ∧ p ≤ c) : ∃ W, RUN d 386 (am_en 386 [aI (iI x), aI (iI p), aR 46 m]) (HM q V) = rI (p - numS x) (HM q W) ∧ (∀ a z, (¬ a = 46 ∨ ¬ z = m) → W a z = V a z) ∧ ((numL x).length : Int) = numS x ∧ ∀ j : Int, W 46 m j = if p - numS x ≤ j ∧ j < p then (numL x).getD (j - (p - numS x)).toNat 0 else V 46 m j := by
  have hp0 : 1 ≤ p ∧ p ≤ c := by unfold numS at hp; split at hp <;> omega
  have head : RUN d 386 (am_en 386 [aI (iI x), aI (iI p), aR 46 m]) (HM q V) = RUN d 386 (22, [sI (-x), sI p, sR 46 m, none, none, sI p, sI 0], []) (HM q V) := by
    refine (show RUN d 386 (0, [sI x, sI p, sR 46 m, none, none, none, none], []) (HM q V) = _ from ?_)
    refine Eq.trans (k_iload rfl rfl) ?_
    refine Eq.trans (k_store rfl) ?_
    refine Eq.trans (k_iload rfl rfl) ?_
    refine Eq.trans (Eq.trans (k_ifc ((0 : Int) ≤ x) rfl (iI_0le (by omega))) (cif_pos (by omega))) ?_
    refine Eq.trans (k_pushi (0) rfl rfl) ?_
    refine Eq.trans (k_store rfl) ?_
    refine Eq.trans (k_iload rfl rfl) ?_
    refine Eq.trans (Eq.trans (k_ifcN ((0 : Int) = 0) rfl (iI_ne0 ⟨by decide, by decide⟩)) (cif_pos rfl)) ?_
    refine Eq.trans (k_iload rfl rfl) ?_
    refine Eq.trans (k_un rfl (iI_neg _)) ?_
    refine Eq.trans (k_store rfl) ?_
    exact rfl
  rw [head]
  have at1 : ∀ (U : VV) (e v j : Int), upV U 46 m e v 46 m j = if j = e then v else U 46 m j := fun U e v j => upV_at
  by_cases c1 : x < 100
  · rw [ch_22e (by omega)]
    by_cases c2 : x < 10
    · have hS : numS x = 1 := by unfold numS; rw [if_pos c2]
      have hL : numL x = [48 + x % 10] := by unfold numL; rw [cif_pos c1, cif_pos c2]
      have e := (ch_72 (d := d) (V := V) (p := p) (l3 := none) (l4 := none) (l1 := sI p) hm hc (by omega) (by omega)).trans (cif_pos c2)
      refine ⟨_, by rw [hS, show p - 1 = p + -1 by omega]; exact e, fun a z h => upV_off2 (by omega), by rw [hL, hS]; rfl, fun j => ?_⟩
      rw [at1, hL, hS]
      by_cases e1 : j = p + -1
      · rw [if_pos e1, if_pos (by omega), show (j - (p - 1)).toNat = 0 by omega]
        rfl
      · rw [if_neg e1, if_neg (by omega)]
    · have hS : numS x = 2 := by unfold numS; rw [if_neg c2, if_pos c1]
      have hL : numL x = [48 + x / 10 % 10, 48 + x % 10] := by unfold numL; rw [cif_pos c1, cif_neg c2]
      have e := (ch_72 (d := d) (V := V) (p := p) (l3 := none) (l4 := none) (l1 := sI p) hm hc (by omega) (by omega)).trans (cif_neg c2)
      rw [show p + -1 + -1 = p - 2 by omega] at e
      refine ⟨_, by rw [hS]; exact e, fun a z h => by rw [upV_off2 (by omega), upV_off2 (by omega)], by rw [hL, hS]; rfl, fun j => ?_⟩
      rw [at1, at1, hL, hS]
      by_cases e1 : j = p - 2
      · rw [if_pos e1, if_pos (by omega), show (j - (p - 2)).toNat = 0 by omega]
        show 48 + x / 10 = 48 + x / 10 % 10
        omega
      · rw [if_neg e1]
        by_cases e2 : j = p + -1
        · rw [if_pos e2, if_pos (by omega), show (j - (p - 2)).toNat = 1 by omega]
          rfl
        · rw [if_neg e2, if_neg (by omega)]
  · have hS : numS x = 3 := by unfold numS; rw [if_neg (by omega), if_neg c1]
    have hL : numL x = [48 + x / 100, 48 + x / 10 % 10, 48 + x % 10] := by unfold numL; rw [cif_neg c1]
    rw [hS] at hp
    have e := (ch_22 (d := d) (V := V) (p := p) (l3 := none) (l4 := none) (l1 := sI p) hm hc (x := x) (by omega) (by omega)).trans ((ch_22e (by omega)).trans ((ch_72 hm hc (by omega) (by omega)).trans (cif_pos (by omega))))
    rw [show p + -1 + -1 + -1 = p - 3 by omega, show p + -1 + -1 = p - 2 by omega] at e
    refine ⟨_, by rw [hS]; exact e, fun a z h => by rw [upV_off2 (by omega), upV_off2 (by omega), upV_off2 (by omega)], by rw [hL, hS]; rfl, fun j => ?_⟩
    rw [at1, at1, at1, hL, hS]
    by_cases e0 : j = p - 3
    · rw [if_pos e0, if_pos (by omega), show (j - (p - 3)).toNat = 0 by omega]
      show 48 + x / 100 % 10 = 48 + x / 100
      omega
    · rw [if_neg e0]
      by_cases e1 : j = p - 2
      · rw [if_pos e1, if_pos (by omega), show (j - (p - 3)).toNat = 1 by omega]
        show 48 + x % 100 / 10 = 48 + x / 10 % 10
        omega
      · rw [if_neg e1]
        by_cases e2 : j = p + -1
        · rw [if_pos e2, if_pos (by omega), show (j - (p - 3)).toNat = 2 by omega]
          show 48 + x % 100 % 10 = 48 + x % 10
          omega
        · rw [if_neg e2, if_neg (by omega)]
theorem numL_asc {x : Int} (hx : 0 ≤ x ∧ x < 1000) : ∀ i : Nat, 0 ≤ (numL x).getD i 0 ∧ (numL x).getD i 0 < 128 := by
  intro i
  unfold numL
  by_cases c1 : x < 100
  · rw [cif_pos c1]
    by_cases c2 : x < 10
    · rw [cif_pos c2]
      match i with
      | 0 => show 0 ≤ 48 + x % 10 ∧ 48 + x % 10 < 128; omega
      | i + 1 => exact (by decide : (0 : Int) ≤ 0 ∧ (0 : Int) < 128)
    · rw [cif_neg c2]
      match i with
      | 0 => show 0 ≤ 48 + x / 10 % 10 ∧ 48 + x / 10 % 10 < 128; omega
      | 1 => show 0 ≤ 48 + x % 10 ∧ 48 + x % 10 < 128; omega
      | i + 2 => exact (by decide : (0 : Int) ≤ 0 ∧ (0 : Int) < 128)
  · rw [cif_neg c1]
    match i with
    | 0 => show 0 ≤ 48 + x / 100 ∧ 48 + x / 100 < 128; omega
    | 1 => show 0 ≤ 48 + x / 10 % 10 ∧ 48 + x / 10 % 10 < 128; omega
    | 2 => show 0 ≤ 48 + x % 10 ∧ 48 + x % 10 < 128; omega
    | i + 3 => exact (by decide : (0 : Int) ≤ 0 ∧ (0 : Int) < 128)
/-- laying a text behind another -/
theorem TX_app {V W : VV} {m m' : Nat} {L K : List Int} (h : TX V m L) (hk : ∀ i : Nat, i < L.length → W 46 m' i = V 46 m i) (h2 : ∀ i : Nat, i < K.length → W 46 m' ((L.length : Int) + i) = K.getD i 0) : TX W m' (L ++ K) := by
  intro i hi
  rw [List.length_append] at hi
  by_cases c : i < L.length
  · rw [getD_app1 c, hk i c]
    exact h i c
  · rw [getD_app2 (by omega), ← h2 (i - L.length) (by omega), show (L.length : Int) + ((i - L.length : Nat) : Int) = i by omega]
theorem c_384 {x : Int} (h : BT n0 q V b L) (hx : 0 ≤ x ∧ x < 1000) (hl : L.length < 60) : ∃ q' V', RUN (d + 3) 384 (am_en 384 [aR 46 b, aI (iI x)]) (HM q V) = some (Sum.inl (some (aR 46 b)), HM q' V') ∧ BT n0 q' V' b (L ++ numL x) ∧ FS n0 1 200 q V q' V' := by
  obtain ⟨m, c, hB, hT⟩ := h
  obtain ⟨⟨hb, hm⟩, ⟨v1, v3⟩, ⟨bm, b1, b2, b3, b4, b5⟩, ⟨n1, n2, n3⟩, hf⟩ := id hB
  have hS : 1 ≤ numS x ∧ numS x ≤ 3 := by unfold numS; split <;> (try split) <;> omega
  obtain ⟨q', V', m', c', e355, hB', hc', hk, hx', fr⟩ := c_355 (d := d) (x1 := (L.length : Int) + numS x) hB (by omega)
  obtain ⟨⟨hb', hm'⟩, ⟨v1', v3'⟩, ⟨bm', b1', b2', b3', b4', b5'⟩, ⟨n1', n2', n3'⟩, hf'⟩ := id hB'
  obtain ⟨W, e386, wo, wl, wm⟩ := c_386 (d := d + 2) (V := V') (x := x) (p := (L.length : Int) + numS x) hm' (by omega) hx (by omega)
  have wb : ∀ j, W 46 b j = V' 46 b j := fun j => by rw [wo 46 b (by omega)]
  have xb : ∀ j : Int, upV W 46 b 3 ((L.length : Int) + numS x) 46 b j = if j = 3 then (L.length : Int) + numS x else V' 46 b j := fun j => by
    rw [upV_at, wb]
  have xm : ∀ j : Int, upV W 46 b 3 ((L.length : Int) + numS x) 46 m' j = W 46 m' j := fun j => by
    rw [upV_off2 (by omega)]
  have fW : FS n0 0 0 q' V' q' W := ⟨adv_refl q', fun a z h => wo a z (by omega)⟩
  refine ⟨q', upV W 46 b 3 ((L.length : Int) + numS x), ?_, ⟨m', c', ⟨⟨hb', hm'⟩, ⟨?_, ?_⟩, ⟨bm', b1', b2', b3', b4', b5'⟩, ⟨Int.ofNat_nonneg _, ?_, n3'⟩, fun j j1 j2 => ?_⟩, TX_app hT (fun i hi => ?_) (fun i hi => ?_)⟩, (fr.trans (fW.trans (FS.st b1'))).mono (Nat.le_refl _) (Nat.le_refl _) (Nat.le_refl _)⟩
  · refine (show RUN (d + 3) 384 (0, [sR 46 b, sI x, none, none], []) (HM q V) = _ from ?_)
    refine Eq.trans (k_aload rfl rfl) ?_
    refine Eq.trans (k_getfi 3 rfl rfl hb rfl) ?_
    rw [v3]
    refine Eq.trans (k_store rfl) ?_
    refine Eq.trans (k_iload rfl rfl) ?_
    refine Eq.trans (k_iload rfl rfl) ?_
    refine Eq.trans (RUN_ci rfl rfl rfl (c_385 hx) (qle_refl _)) ?_
    refine Eq.trans (k_bin rfl (iI_add _ _)) ?_
    refine Eq.trans (k_store rfl) ?_
    refine Eq.trans (k_aload rfl rfl) ?_
    refine Eq.trans (k_iload rfl rfl) ?_
    refine Eq.trans (RUN_ci rfl (c1_46 hb rfl) rfl e355 fr.qle) ?_
    refine Eq.trans (k_aload rfl rfl) ?_
    refine Eq.trans (RUN_ci rfl (c0_46 hb' rfl) rfl (c_360 hb' rfl v1') (qle_refl _)) ?_
    refine Eq.trans (Eq.trans (k_ifc ((1 : Int) = 0) rfl (iI_eq0 ⟨by decide, by decide⟩)) (cif_neg (by decide))) ?_
    refine Eq.trans (k_iload rfl rfl) ?_
    refine Eq.trans (k_iload rfl rfl) ?_
    refine Eq.trans (k_aload rfl rfl) ?_
    refine Eq.trans (k_getfr rfl hb' rfl) ?_
    refine Eq.trans (RUN_ci rfl rfl rfl e386 (qle_refl _)) ?_
    refine Eq.trans (k_pop rfl) ?_
    refine Eq.trans (k_goto rfl) ?_
    refine Eq.trans (k_aload rfl rfl) ?_
    refine Eq.trans (k_iload rfl rfl) ?_
    refine Eq.trans (k_putfi 3 rfl rfl hb' rfl trivial) ?_
    refine Eq.trans (k_aload rfl rfl) ?_
    exact k_aretR rfl
  · rw [xb, if_neg (by decide)]
    exact v1'
  · rw [xb, if_pos rfl, List.length_append]
    omega
  · rw [List.length_append]
    omega
  · rw [xm, wm]
    split
    · have := numL_asc hx (j - ((L.length : Int) + numS x - numS x)).toNat
      omega
    · exact hf' j j1 j2
  · rw [xm, wm, if_neg (by omega)]
    exact hk i (by omega) (by omega)
  · rw [xm, wm, if_pos (by omega), show ((L.length : Int) + i - ((L.length : Int) + numS x - numS x)).toNat = i by omega]
theorem c_383 {x : Int} (h : BT n0 q V b L) (hx : 0 ≤ x ∧ x < 1000) (hl : L.length < 60) : ∃ q' V', RUN (d + 4) 383 (am_en 383 [aR 46 b, aI (iI x)]) (HM q V) = some (Sum.inl (some (aR 46 b)), HM q' V') ∧ BT n0 q' V' b (L ++ numL x) ∧ FS n0 1 200 q V q' V' := by
  obtain ⟨q', V', e, h', fr⟩ := c_384 (d := d) h hx hl
  obtain ⟨m, c, ⟨⟨hb, hm⟩, _⟩, _⟩ := h
  refine ⟨q', V', ?_, h', fr⟩
  refine (show RUN (d + 4) 383 (0, [sR 46 b, sI x], []) (HM q V) = _ from ?_)
  refine Eq.trans (k_aload rfl rfl) ?_
  refine Eq.trans (k_iload rfl rfl) ?_
  refine Eq.trans (RUN_ci rfl (c1_46 hb rfl) rfl e fr.qle) ?_
  refine Eq.trans (k_popR rfl) ?_
  refine Eq.trans (k_aload rfl rfl) ?_
  exact k_aretR rfl
end
