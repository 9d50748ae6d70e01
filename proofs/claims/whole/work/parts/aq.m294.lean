/-! the model's command, whole -/
theorem psV_f {V : VV} {w p e x : Int} (h : ¬ (e = 18 ∨ e = 19)) : upV (psV V w p) 33 0 e x = psV (upV V 33 0 e x) w p := by
  funext a b j
  unfold psV upV
  cases hh : Nat.beq a 33 && Nat.beq b 0 with
  | false => rfl
  | true =>
    show (if j = e then x else if j = 18 then p else if j = 19 then w else V a b j) = (if j = 18 then p else if j = 19 then w else if j = e then x else V a b j)
    by_cases c : j = e
    · rw [if_pos c, if_neg (by omega), if_neg (by omega), if_pos c]
    · rw [if_neg c]
      by_cases c1 : j = 18
      · rw [if_pos c1, if_pos c1]
      · rw [if_neg c1, if_neg c1]
        by_cases c2 : j = 19
        · rw [if_pos c2, if_pos c2]
        · rw [if_neg c2, if_neg c2, if_neg c]
section
variable {V W : VV} {T : Int → Int} {L k c0 p0 : Int} {F G : List Int} {s : Int × Int} {d : Nat} {q : QQ} {i : Int} {l2 : Option AV}
theorem stC_num2 {v c m z : Int} (hz : cntV F = z) (hm : 4 * k + 1 + z = m) (hc : isV c) (hv : s.1 = 0 → okI T L c s.2 → v = valI T L c s.2) (st : stC V T L k c0 p0 F W s) : stC V T L k c0 p0 (F ++ [c]) (upV W 43 0 m v) (rsw T L [c] s) := stC_num (by omega) hc hv st
theorem here45 (hp : 0 ≤ p0) (tx : TX V T L) : hereC T L p0 = 45 ↔ mns T L p0 := by
  unfold hereC mns
  by_cases z : p0 < L
  · rw [cif_pos z]
    exact ⟨fun y => ⟨z, y⟩, fun y => y.2⟩
  · rw [cif_neg z]
    exact ⟨fun y => by omega, fun y => absurd y.1 z⟩
theorem okI_87 {p : Int} : okI T L 87 p = dig T L (wP T L p) ∧ endI T L 87 p = cif (dig T L (wP T L p)) (wP T L p + 1) (wP T L p) ∧ valI T L 87 p = cif (mns T L p) (-(T (p + 1) - 48)) (T p - 48) := by
  refine ⟨?_, ?_, ?_⟩
  · unfold okI; rw [cif_neg (by decide), cif_neg (by decide), cif_neg (by decide), cif_pos rfl]
  · unfold endI; rw [cif_neg (by decide), cif_neg (by decide), cif_neg (by decide), cif_pos rfl]
  · unfold valI; rw [cif_neg (by decide), cif_neg (by decide), cif_neg (by decide)]
theorem wnd_is {w p : Int} : rsw T L [87] (w, p) = rsw T L [68] (w, p + b2i (w = 0 ∧ mns T L p)) := by
  obtain ⟨k1, k2, k3⟩ := okI_87 (T := T) (L := L) (p := p)
  rw [rsw_1, rsw_1, k1, k2]
  obtain ⟨j1, j2, j3⟩ := okI_68 (T := T) (L := L) (p := p + b2i (w = 0 ∧ mns T L p))
  rw [j1, j2]
  by_cases c : w = 0
  · rw [cif_pos c, cif_pos c]
    have : p + b2i (w = 0 ∧ mns T L p) = wP T L p := by
      unfold wP
      by_cases m : mns T L p
      · rw [cif_pos m, b2i_pos ⟨c, m⟩]
      · rw [cif_neg m, b2i_neg (fun z => m z.2)]
        omega
    rw [this]
  · rw [cif_neg c, cif_neg c, b2i_neg (fun z => c z.1), Int.add_zero]
theorem ru_wind (tx : TX V T L) (hp : 0 ≤ p0 ∧ p0 ≤ L) (st : stC V T L k c0 p0 F W s) (hi : 0 ≤ i + 1 ∧ i + 1 < 240) :
    ∃ v, RUN (d + 5) 294 (238, [sR 33 0, sI i, l2], []) (HM q (psV W s.1 s.2)) = rV (HM q (psV (upV W 43 0 (i + 1) v) (rsw T L [87] s).1 (rsw T L [87] s).2)) ∧ (s.1 = 0 → okI T L 87 s.2 → v = valI T L 87 s.2) := by
  obtain ⟨w1, w2⟩ := stC_b st hp
  obtain ⟨w, p⟩ := s
  have txW := stC_TX tx st
  have w1 : w = 0 ∨ w = 1 := w1
  have w2 : 0 ≤ p ∧ p ≤ L := w2
  have hL := tx.2.1
  have r32 : R32 w := by rcases w1 with h | h <;> rw [h] <;> decide
  have hh := hereC_R txW w2.1
  have one : RUN (d + 5) 294 (238, [sR 33 0, sI i, l2], []) (HM q (psV W w p)) = RUN (d + 5) 294 (278, [sR 33 0, sI i, sI (b2i (w = 0 ∧ mns T L p))], []) (HM q (psV W w (p + b2i (w = 0 ∧ mns T L p)))) := by
    refine Eq.trans (k_aload rfl rfl) (Eq.trans (k_getfi 19 rfl rfl rfl rfl) ?_)
    by_cases c : w = 0
    · refine Eq.trans (Eq.trans (k_ifcN (w = 0) rfl (iI_ne0 r32)) (cif_pos c)) ?_
      refine Eq.trans (k_aload rfl rfl) (Eq.trans (RUN_ci rfl rfl rfl (s_295 txW w2) (qle_refl _)) (Eq.trans (k_pushi 45 rfl rfl) ?_))
      by_cases m : mns T L p
      · refine Eq.trans (Eq.trans (k_icmpcN (hereC T L p = 45) rfl (iI_ne (by constructor <;> omega) (by decide))) (cif_pos ((here45 w2.1 txW).mpr m))) ?_
        rw [b2i_pos ⟨c, m⟩]
        refine Eq.trans (k_pushi 1 rfl rfl) (Eq.trans (k_goto rfl) (Eq.trans (k_store rfl) (Eq.trans (k_aload rfl rfl) (Eq.trans (k_dupR rfl) (Eq.trans (k_getfi 18 rfl rfl rfl rfl) (Eq.trans (k_iload rfl rfl) (Eq.trans (Eq.trans (k_ifc ((1 : Int) = 0) rfl (iI_eq0 (show R32 (1 : Int) by decide))) (cif_neg (by decide))) (Eq.trans (k_pushi 1 rfl rfl) (Eq.trans (k_goto rfl) (Eq.trans (k_bin rfl (iI_add _ _)) (Eq.trans (k_putfi 18 rfl rfl rfl rfl trivial) ?_)))))))))))
        rw [psV_18]
        rfl
      · refine Eq.trans (Eq.trans (k_icmpcN (hereC T L p = 45) rfl (iI_ne (by constructor <;> omega) (by decide))) (cif_neg (fun z => m ((here45 w2.1 txW).mp z)))) ?_
        rw [b2i_neg (fun z => m z.2)]
        refine Eq.trans (k_pushi 0 rfl rfl) (Eq.trans (k_store rfl) (Eq.trans (k_aload rfl rfl) (Eq.trans (k_dupR rfl) (Eq.trans (k_getfi 18 rfl rfl rfl rfl) (Eq.trans (k_iload rfl rfl) (Eq.trans (Eq.trans (k_ifc ((0 : Int) = 0) rfl (iI_eq0 (show R32 (0 : Int) by decide))) (cif_pos rfl)) (Eq.trans (k_pushi 0 rfl rfl) (Eq.trans (k_bin rfl (iI_add _ _)) (Eq.trans (k_putfi 18 rfl rfl rfl rfl trivial) ?_)))))))))
        rw [psV_18]
        rfl
    · refine Eq.trans (Eq.trans (k_ifcN (w = 0) rfl (iI_ne0 r32)) (cif_neg c)) ?_
      rw [b2i_neg (fun z => c z.1)]
      refine Eq.trans (k_pushi 0 rfl rfl) (Eq.trans (k_store rfl) (Eq.trans (k_aload rfl rfl) (Eq.trans (k_dupR rfl) (Eq.trans (k_getfi 18 rfl rfl rfl rfl) (Eq.trans (k_iload rfl rfl) (Eq.trans (Eq.trans (k_ifc ((0 : Int) = 0) rfl (iI_eq0 (show R32 (0 : Int) by decide))) (cif_pos rfl)) (Eq.trans (k_pushi 0 rfl rfl) (Eq.trans (k_bin rfl (iI_add _ _)) (Eq.trans (k_putfi 18 rfl rfl rfl rfl trivial) ?_)))))))))
      rw [psV_18]
      rfl
  have hp2 : 0 ≤ p + b2i (w = 0 ∧ mns T L p) ∧ p + b2i (w = 0 ∧ mns T L p) ≤ L := by
    by_cases m : w = 0 ∧ mns T L p
    · rw [b2i_pos m]
      have := m.2.1
      omega
    · rw [b2i_neg m]
      omega
  obtain ⟨v, e1, e2⟩ := s_297_1 (d := d + 2) (q := q) txW hp2 w1
  rw [← wnd_is] at e1
  refine ⟨v * cif (w = 0 ∧ mns T L p) (-1) 1, ?_, fun c ok => ?_⟩
  · refine one.trans (Eq.trans (k_aload rfl rfl) (Eq.trans (k_getfr rfl rfl rfl) (Eq.trans (k_iload rfl rfl) (Eq.trans (k_pushi 1 rfl rfl) (Eq.trans (k_bin rfl (iI_add _ _)) (Eq.trans (k_aload rfl rfl) (Eq.trans (k_pushi 1 rfl rfl) (Eq.trans (RUN_ci rfl rfl rfl e1 (qle_refl _)) (Eq.trans (k_iload rfl rfl) ?_)))))))))
    refine Eq.trans (k_ifcN (w = 0 ∧ mns T L p) rfl ((iI_eq0 (b2i_R _)).trans ⟨fun z y => by rw [b2i_pos y] at z; exact absurd z (by decide), fun z => b2i_neg z⟩)) ?_
    refine cif_eq (fun c => ?_) (fun c => ?_)
    · rw [cif_pos c]
      refine Eq.trans (k_pushi (-1) rfl rfl) (Eq.trans (k_goto rfl) (Eq.trans (k_bin rfl (iI_mul _ _)) (Eq.trans (k_iast rfl rfl rfl hi) (Eq.trans (k_goto rfl) ?_))))
      rw [psV_43]
      exact k_ret rfl
    · rw [cif_neg c]
      refine Eq.trans (k_pushi 1 rfl rfl) (Eq.trans (k_bin rfl (iI_mul _ _)) (Eq.trans (k_iast rfl rfl rfl hi) (Eq.trans (k_goto rfl) ?_)))
      rw [psV_43]
      exact k_ret rfl
  · have c : w = 0 := c
    have ok : okI T L 87 p := ok
    obtain ⟨k1, k2, k3⟩ := okI_87 (T := T) (L := L) (p := p)
    obtain ⟨j1, j2, j3⟩ := okI_68 (T := T) (L := L) (p := p + b2i (w = 0 ∧ mns T L p))
    rw [k1] at ok
    rw [j1, j3] at e2
    show _ = valI T L 87 p
    rw [k3]
    unfold wP at ok
    by_cases m : mns T L p
    · rw [cif_pos m] at ok ⊢
      rw [b2i_pos ⟨c, m⟩] at e2
      rw [cif_pos ⟨c, m⟩, e2 c ok]
      omega
    · rw [cif_neg m] at ok ⊢
      rw [b2i_neg (fun z => m z.2), Int.add_zero] at e2
      rw [cif_neg (fun z => m z.2), e2 c ok]
      omega
/-- a command was read by the model -/
def tookM (V : VV) (T : Int → Int) (L k p0 : Int) (W : VV) : Prop :=
  (∀ a b, ¬ ((a = 33 ∨ a = 43) ∧ b = 0) → W a b = V a b) ∧ (∀ j, ¬ (j = 18 ∨ j = 19 ∨ j = 23) → W 33 0 j = V 33 0 j) ∧ W 33 0 23 = k + 1 ∧ (∀ i, i < 4 * k → W 43 0 i = V 43 0 i) ∧
    ((cmdR T L p0).1 → W 43 0 (4 * k) = hereC T L p0 ∧ ∀ i : Nat, i < (cmdR T L p0).2.2.length → W 43 0 (4 * k + 1 + i) = (cmdR T L p0).2.2.getD i 0)
theorem took_of (he : cmdR T L p0 = runF T L F p0) (hc : c0 = hereC T L p0) (st : stC V T L k c0 p0 F W s) : tookM V T L k p0 W ∧ s = (b2i (¬ (cmdR T L p0).1), (cmdR T L p0).2.1) := by
  obtain ⟨h1, h2, h3, h4, h5, h6, h7⟩ := st
  refine ⟨⟨h2, h3, h4, h5, fun z => ⟨by rw [h6, hc], ?_⟩⟩, ?_⟩
  · rw [he] at z ⊢
    exact h7 z
  · rw [h1, rsw_0, he]
theorem ru_let (tx : TX V T L) (hp : 0 ≤ p0 ∧ p0 ≤ L) (st : stC V T L k c0 p0 F W s) (hi : 0 ≤ i + 3 ∧ i + 3 < 240) :
    ∃ v, RUN (d + 5) 294 (351, [sR 33 0, sI i, l2], []) (HM q (psV W s.1 s.2)) = rV (HM q (psV (upV W 43 0 (i + 3) v) (rsw T L [76] s).1 (rsw T L [76] s).2)) ∧ (s.1 = 0 → okI T L 76 s.2 → v = valI T L 76 s.2) := by
  obtain ⟨w1, w2⟩ := stC_b st hp
  obtain ⟨v, e1, e2⟩ := s_299 (d := d + 2) (q := q) (stC_TX tx st) w2 w1
  refine ⟨v, ?_, e2⟩
  refine Eq.trans (k_aload rfl rfl) (Eq.trans (k_getfr rfl rfl rfl) (Eq.trans (k_iload rfl rfl) (Eq.trans (k_pushi 3 rfl rfl) (Eq.trans (k_bin rfl (iI_add _ _)) (Eq.trans (k_aload rfl rfl) (Eq.trans (RUN_ci rfl rfl rfl e1 (qle_refl _)) (Eq.trans (k_iast rfl rfl rfl hi) ?_)))))))
  rw [psV_43]
  exact k_ret rfl
theorem s_294 (tx : TX V T L) (hp : 0 ≤ p0 ∧ p0 ≤ L) (hk : V 33 0 23 = k) (hk2 : 0 ≤ k ∧ k < 60) : ∃ W, tookM V T L k p0 W ∧ RUN (d + 5) 294 (am_en 294 [aR 33 0]) (HM q (psV V 0 p0)) = rV (HM q (psV W (b2i (¬ (cmdR T L p0).1)) (cmdR T L p0).2.1)) := by
  have hh := hereC_R tx hp.1
  have head : RUN (d + 5) 294 (am_en 294 [aR 33 0]) (HM q (psV V 0 p0)) = RUN (d + 5) 294 (41, [sR 33 0, sI (4 * k), none], [aI (iI (hereC T L p0))]) (HM q (psV (upV (upV V 43 0 (4 * k) (hereC T L p0)) 33 0 23 (k + 1)) 0 p0)) := by
    refine (show RUN (d + 5) 294 (0, [sR 33 0, none, none], []) (HM q (psV V 0 p0)) = _ from ?_)
    refine Eq.trans (k_aload rfl rfl) (Eq.trans (k_getfi 19 rfl rfl rfl rfl) (Eq.trans (Eq.trans (k_ifc ((0 : Int) = 0) rfl (iI_eq0 (show R32 (0 : Int) by decide))) (cif_pos rfl)) (Eq.trans (k_pushi 4 rfl rfl) (Eq.trans (k_aload rfl rfl) (Eq.trans (k_getfi 23 rfl rfl rfl rfl) ?_)))))
    rw [show psV V 0 p0 33 0 23 = k from hk]
    refine Eq.trans (k_bin rfl (iI_mul _ _)) (Eq.trans (k_store rfl) (Eq.trans (k_aload rfl rfl) (Eq.trans (k_getfr rfl rfl rfl) (Eq.trans (k_iload rfl rfl) (Eq.trans (k_aload rfl rfl) (Eq.trans (RUN_ci rfl rfl rfl (s_295 tx hp) (qle_refl _)) (Eq.trans (k_iast rfl rfl rfl (by constructor <;> omega)) ?_)))))))
    rw [psV_43]
    refine Eq.trans (k_aload rfl rfl) (Eq.trans (k_dupR rfl) (Eq.trans (k_getfi 23 rfl rfl rfl rfl) (Eq.trans (k_pushi 1 rfl rfl) (Eq.trans (k_bin rfl (iI_add _ _)) (Eq.trans (k_putfi 23 rfl rfl rfl rfl trivial) ?_)))))
    rw [psV_f (by decide), show psV (upV V 43 0 (4 * k) (hereC T L p0)) 0 p0 33 0 23 = k from hk]
    refine Eq.trans (k_aload rfl rfl) (Eq.trans (k_getfr rfl rfl rfl) (Eq.trans (k_iload rfl rfl) (k_ialdE rfl rfl rfl (by constructor <;> omega) (if_pos rfl))))
  have st0 : stC V T L k (hereC T L p0) p0 [] (upV (upV V 43 0 (4 * k) (hereC T L p0)) 33 0 23 (k + 1)) (0, p0) := by
    refine ⟨?_, fun a b h => ?_, fun j h => ?_, rfl, fun j h => ?_, if_pos rfl, fun _ j hj => absurd hj (Nat.not_lt_zero j)⟩
    · rw [rsw_0]
      show _ = (b2i (¬ True), p0)
      rw [b2i_neg (fun z => z trivial)]
    · rw [upV_off2 (by omega), upV_off2 (by omega)]
    · show (if j = 23 then _ else V 33 0 j) = _
      rw [if_neg (by omega)]
    · show (if j = 4 * k then _ else V 43 0 j) = _
      rw [if_neg (by omega)]
  rw [head]
  generalize upV (upV V 43 0 (4 * k) (hereC T L p0)) 33 0 23 (k + 1) = Z at st0
  have r32 : R32 (hereC T L p0) := by constructor <;> omega
  by_cases c103 : hereC T L p0 = 103
  · have eF : frm (hereC T L p0) = frm 103 := by rw [c103]
    have e0 := ru_skip (d := d) (q := q) (i := 4 * k) (l2 := none) (pc := 84) tx hp st0 (mstr_13 q) rfl rfl rfl
    have st1 := stC_skip (mstr_lit (mstr_13 q)) st0
    obtain ⟨v1, e1, z1⟩ := ru_num (d := d) (q := q) (i := 4 * k) (l2 := none) (pc := 90) (m := 1) (n := 2) (c := 78) tx hp st1 (by decide) rfl rfl rfl rfl rfl rfl rfl rfl rfl rfl rfl (by constructor <;> omega)
    have st2 := stC_num2 (v := v1) (c := 78) (m := 4 * k + 1) (z := 0) (by decide) (by omega) (Or.inr (Or.inr (Or.inl rfl))) z1 st1
    have e2 := ru_skip (d := d) (q := q) (i := 4 * k) (l2 := none) (pc := 103) tx hp st2 (mstr_14 q) rfl rfl rfl
    have st3 := stC_skip (mstr_lit (mstr_14 q)) st2
    obtain ⟨v3, e3, z3⟩ := ru_num (d := d) (q := q) (i := 4 * k) (l2 := none) (pc := 109) (m := 2) (n := 1) (c := 68) tx hp st3 (by decide) rfl rfl rfl rfl rfl rfl rfl rfl rfl rfl rfl (by constructor <;> omega)
    have st4 := stC_num2 (v := v3) (c := 68) (m := 4 * k + 2) (z := 1) (by decide) (by omega) (Or.inl rfl) z3 st3
    obtain ⟨t1, t2⟩ := took_of (show cmdR T L p0 = runF T L _ p0 by unfold cmdR; rw [eF]; rfl) rfl st4
    refine ⟨_, t1, Eq.trans (k_lsw (n := 84) rfl (lsw_eq c103 rfl)) (Eq.trans (Eq.trans e0 (Eq.trans e1 (Eq.trans e2 (Eq.trans e3 (Eq.trans (k_goto rfl) (k_ret rfl)))))) ?_)⟩
    rw [t2]
  by_cases c109 : hereC T L p0 = 109
  · have eF : frm (hereC T L p0) = frm 109 := by rw [c109]
    have e0 := ru_skip (d := d) (q := q) (i := 4 * k) (l2 := none) (pc := 188) tx hp st0 (mstr_18 q) rfl rfl rfl
    have st1 := stC_skip (mstr_lit (mstr_18 q)) st0
    obtain ⟨v1, e1, z1⟩ := ru_num (d := d) (q := q) (i := 4 * k) (l2 := none) (pc := 195) (m := 1) (n := 1) (c := 68) tx hp st1 (by decide) rfl rfl rfl rfl rfl rfl rfl rfl rfl rfl rfl (by constructor <;> omega)
    have st2 := stC_num2 (v := v1) (c := 68) (m := 4 * k + 1) (z := 0) (by decide) (by omega) (Or.inl rfl) z1 st1
    have e2 := ru_skip (d := d) (q := q) (i := 4 * k) (l2 := none) (pc := 208) tx hp st2 (mstr_17 q) rfl rfl rfl
    have st3 := stC_skip (mstr_lit (mstr_17 q)) st2
    obtain ⟨v3, e3, z3⟩ := ru_num (d := d) (q := q) (i := 4 * k) (l2 := none) (pc := 215) (m := 2) (n := 1) (c := 68) tx hp st3 (by decide) rfl rfl rfl rfl rfl rfl rfl rfl rfl rfl rfl (by constructor <;> omega)
    have st4 := stC_num2 (v := v3) (c := 68) (m := 4 * k + 2) (z := 1) (by decide) (by omega) (Or.inl rfl) z3 st3
    obtain ⟨t1, t2⟩ := took_of (show cmdR T L p0 = runF T L _ p0 by unfold cmdR; rw [eF]; rfl) rfl st4
    refine ⟨_, t1, Eq.trans (k_lsw (n := 188) rfl (lsw_eq c109 rfl)) (Eq.trans (Eq.trans e0 (Eq.trans e1 (Eq.trans e2 (Eq.trans e3 (Eq.trans (k_goto rfl) (k_ret rfl)))))) ?_)⟩
    rw [t2]
  by_cases c116 : hereC T L p0 = 116
  · have eF : frm (hereC T L p0) = frm 116 := by rw [c116]
    have e0 := ru_skip (d := d) (q := q) (i := 4 * k) (l2 := none) (pc := 125) tx hp st0 (mstr_15 q) rfl rfl rfl
    have st1 := stC_skip (mstr_lit (mstr_15 q)) st0
    obtain ⟨v1, e1, z1⟩ := ru_num (d := d) (q := q) (i := 4 * k) (l2 := none) (pc := 132) (m := 1) (n := 2) (c := 78) tx hp st1 (by decide) rfl rfl rfl rfl rfl rfl rfl rfl rfl rfl rfl (by constructor <;> omega)
    have st2 := stC_num2 (v := v1) (c := 78) (m := 4 * k + 1) (z := 0) (by decide) (by omega) (Or.inr (Or.inr (Or.inl rfl))) z1 st1
    have e2 := ru_skip (d := d) (q := q) (i := 4 * k) (l2 := none) (pc := 145) tx hp st2 (mstr_16 q) rfl rfl rfl
    have st3 := stC_skip (mstr_lit (mstr_16 q)) st2
    obtain ⟨v3, e3, z3⟩ := ru_num (d := d) (q := q) (i := 4 * k) (l2 := none) (pc := 152) (m := 2) (n := 1) (c := 68) tx hp st3 (by decide) rfl rfl rfl rfl rfl rfl rfl rfl rfl rfl rfl (by constructor <;> omega)
    have st4 := stC_num2 (v := v3) (c := 68) (m := 4 * k + 2) (z := 1) (by decide) (by omega) (Or.inl rfl) z3 st3
    have e4 := ru_skip (d := d) (q := q) (i := 4 * k) (l2 := none) (pc := 165) tx hp st4 (mstr_17 q) rfl rfl rfl
    have st5 := stC_skip (mstr_lit (mstr_17 q)) st4
    obtain ⟨v5, e5, z5⟩ := ru_num (d := d) (q := q) (i := 4 * k) (l2 := none) (pc := 172) (m := 3) (n := 1) (c := 68) tx hp st5 (by decide) rfl rfl rfl rfl rfl rfl rfl rfl rfl rfl rfl (by constructor <;> omega)
    have st6 := stC_num2 (v := v5) (c := 68) (m := 4 * k + 3) (z := 2) (by decide) (by omega) (Or.inl rfl) z5 st5
    obtain ⟨t1, t2⟩ := took_of (show cmdR T L p0 = runF T L _ p0 by unfold cmdR; rw [eF]; rfl) rfl st6
    refine ⟨_, t1, Eq.trans (k_lsw (n := 125) rfl (lsw_eq c116 rfl)) (Eq.trans (Eq.trans e0 (Eq.trans e1 (Eq.trans e2 (Eq.trans e3 (Eq.trans e4 (Eq.trans e5 (Eq.trans (k_goto rfl) (k_ret rfl)))))))) ?_)⟩
    rw [t2]
  by_cases c119 : hereC T L p0 = 119
  · have eF : frm (hereC T L p0) = frm 119 := by rw [c119]
    have e0 := ru_skip (d := d) (q := q) (i := 4 * k) (l2 := none) (pc := 231) tx hp st0 (mstr_19 q) rfl rfl rfl
    have st1 := stC_skip (mstr_lit (mstr_19 q)) st0
    obtain ⟨v1, e1, z1⟩ := ru_wind (d := d) (q := q) (i := 4 * k) (l2 := none) tx hp st1 (by constructor <;> omega)
    have st2 := stC_num2 (v := v1) (c := 87) (m := 4 * k + 1) (z := 0) (by decide) (by omega) (Or.inr (Or.inr (Or.inr rfl))) z1 st1
    obtain ⟨t1, t2⟩ := took_of (show cmdR T L p0 = runF T L _ p0 by unfold cmdR; rw [eF]; rfl) rfl st2
    refine ⟨_, t1, Eq.trans (k_lsw (n := 231) rfl (lsw_eq c119 rfl)) (Eq.trans (Eq.trans e0 e1) ?_)⟩
    rw [t2]
  have eF : frm (hereC T L p0) = frm 115 := by
    unfold frm
    rw [if_neg c103, if_neg c116, if_neg c109, if_neg c119]
    rfl
  have e0 := ru_skip (d := d) (q := q) (i := 4 * k) (l2 := none) (pc := 304) tx hp st0 (mstr_20 q) rfl rfl rfl
  have st1 := stC_skip (mstr_lit (mstr_20 q)) st0
  obtain ⟨v1, e1, z1⟩ := ru_num (d := d) (q := q) (i := 4 * k) (l2 := none) (pc := 311) (m := 1) (n := 1) (c := 68) tx hp st1 (by decide) rfl rfl rfl rfl rfl rfl rfl rfl rfl rfl rfl (by constructor <;> omega)
  have st2 := stC_num2 (v := v1) (c := 68) (m := 4 * k + 1) (z := 0) (by decide) (by omega) (Or.inl rfl) z1 st1
  have e2 := ru_skip (d := d) (q := q) (i := 4 * k) (l2 := none) (pc := 324) tx hp st2 (mstr_21 q) rfl rfl rfl
  have st3 := stC_skip (mstr_lit (mstr_21 q)) st2
  obtain ⟨v3, e3, z3⟩ := ru_num (d := d) (q := q) (i := 4 * k) (l2 := none) (pc := 331) (m := 2) (n := 1) (c := 68) tx hp st3 (by decide) rfl rfl rfl rfl rfl rfl rfl rfl rfl rfl rfl (by constructor <;> omega)
  have st4 := stC_num2 (v := v3) (c := 68) (m := 4 * k + 2) (z := 1) (by decide) (by omega) (Or.inl rfl) z3 st3
  have e4 := ru_skip (d := d) (q := q) (i := 4 * k) (l2 := none) (pc := 344) tx hp st4 (mstr_22 q) rfl rfl rfl
  have st5 := stC_skip (mstr_lit (mstr_22 q)) st4
  obtain ⟨v5, e5, z5⟩ := ru_let (d := d) (q := q) (i := 4 * k) (l2 := none) tx hp st5 (by constructor <;> omega)
  have st6 := stC_num2 (v := v5) (c := 76) (m := 4 * k + 3) (z := 2) (by decide) (by omega) (Or.inr (Or.inl rfl)) z5 st5
  obtain ⟨t1, t2⟩ := took_of (show cmdR T L p0 = runF T L _ p0 by unfold cmdR; rw [eF]; rfl) rfl st6
  refine ⟨_, t1, Eq.trans (k_lsw (n := 304) rfl ((lsw_no (fun e => c103 ((iI_eq r32 (by decide)).mp e))).trans ((lsw_no (fun e => c109 ((iI_eq r32 (by decide)).mp e))).trans ((lsw_no (fun e => c116 ((iI_eq r32 (by decide)).mp e))).trans ((lsw_no (fun e => c119 ((iI_eq r32 (by decide)).mp e))).trans rfl))))) (Eq.trans (Eq.trans e0 (Eq.trans e1 (Eq.trans e2 (Eq.trans e3 (Eq.trans e4 e5))))) ?_)⟩
  rw [t2]
end
