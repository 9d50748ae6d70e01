/-! what was done is undone: seven calls drawn from the numbers -/
theorem usr_e (a b : Int) : ((iI a).toUInt32 >>> ((iI b).toUInt32 &&& Int32.toUInt32 31)).toInt32 = iI (bUsr a b) := (iI_of _).symm
theorem usr_nn (a : Int) (k : Nat) (h : ((iI (k : Int)).toUInt32 &&& Int32.toUInt32 31).toBitVec % 32 = BitVec.ofNat 32 k) (hk : 0 < k ∧ k < 32) : 0 ≤ bUsr a k ∧ bUsr a k < 2147483648 := by
  have h1 := nN_usr a k h hk.2
  have h2 := bUsr_R a k
  have h3 := nN_lt a
  have h4 : nN a / 2 ^ k < 2147483648 := by
    have : 2 ^ 1 ≤ 2 ^ k := Nat.pow_le_pow_right (by decide) hk.1
    refine Nat.lt_of_le_of_lt (Nat.div_le_div_left this (by decide)) ?_
    omega
  rw [← h1, nN_eq] at h4
  omega
/-- a number of the list, or another in its stead -/
theorem o_309 {d : Nat} {q : QQ} {V : VV} {k : Int} (hL : q.1.1 < 2147483648) (hk : 0 ≤ k ∧ k < 100) : ∃ z, R32 z ∧ RUN d 309 (am_en 309 [aR 0 0, aI (iI k)]) (HM q V) = rI z (HM q V) := by
  have hd : RUN d 309 (am_en 309 [aR 0 0, aI (iI k)]) (HM q V) = cif ((q.1.1 : Int) ≤ k) (RUN d 309 (12, [sR 0 0, sI k], []) (HM q V)) (RUN d 309 (6, [sR 0 0, sI k], []) (HM q V)) := by
    refine (show RUN d 309 (0, [sR 0 0, sI k], []) (HM q V) = _ from ?_)
    refine Eq.trans (k_iload rfl rfl) ?_
    refine Eq.trans (k_aload rfl rfl) ?_
    refine Eq.trans (k_alen0 rfl rfl) ?_
    exact k_icmpc ((q.1.1 : Int) ≤ k) rfl (iI_le (by omega) (by omega))
  by_cases c : (q.1.1 : Int) ≤ k
  · refine ⟨(iI (40503 * k)).toInt, ⟨Int32.le_toInt _, Int32.toInt_lt _⟩, ?_⟩
    rw [cif_pos c] at hd
    rw [hd]
    refine Eq.trans (k_pushi (40503) rfl rfl) ?_
    refine Eq.trans (k_iload rfl rfl) ?_
    refine Eq.trans (k_bin rfl ((iI_mul _ _).trans (iI_of _).symm)) ?_
    exact k_iret rfl trivial
  · refine ⟨(q.1.2.1 k.toNat).toInt, ⟨Int32.le_toInt _, Int32.toInt_lt _⟩, ?_⟩
    rw [cif_neg c] at hd
    rw [hd]
    refine Eq.trans (k_aload rfl rfl) ?_
    refine Eq.trans (k_iload rfl rfl) ?_
    refine Eq.trans (k_ialdK (q.1.2.1 k.toNat).toInt rfl rfl hL (by omega) rfl (iI_of _).symm) ?_
    refine Eq.trans (k_goto rfl) ?_
    exact k_iret rfl trivial
/-- a builder whose text is at most so long -/
def BTm (n0 : Nat) (q : QQ) (V : VV) (b m : Nat) : Prop := ∃ L, BT n0 q V b L ∧ L.length ≤ m ∧ asc L
section
variable {d y pc p1 p2 n0 b m : Nat} {ls : List (Option AV)} {st : List AV} {q : QQ} {V : VV} {L : List Int}
theorem m_new (h1 : am_cd y pc = i_new 9 4 [aN, aI 0, aI 0, aI 0] p1) (h2 : am_cd y p1 = i_dup p2) (h3 : am_cd y p2 = i_calli 351 0) (hs : Nat.ble (st.length + 1) 4 = true) (hn : 136 ≤ q.2.1.1) : ∃ q' V', RUN (d + 6) y (pc, ls, st) (HM q V) = RUN (d + 6) y (p2 + 3, ls, aR 46 q.2.1.1 :: st) (HM q' V') ∧ BTm q.2.1.1 q' V' q.2.1.1 0 ∧ FS q.2.1.1 2 20 q V q' V' := by
  obtain ⟨q', V', e, B, f⟩ := k_newSB (d := d) (ls := ls) (st := st) (V := V) h1 h2 h3 hs hn
  exact ⟨q', V', e, ⟨[], B, Nat.le_refl _, asc_nil⟩, f⟩
theorem m_S {a b' mb k : Nat} {K : List Int} (hcd : am_cd y pc = i_call 366 1 9) (hs : Nat.ble st.length 4 = true) (h : ST n0 q V a b' mb K) (hk : K.length = k) (hB : BTm n0 q V b m) (hl : m + k ≤ 70) : ∃ q' V', RUN (d + 6) y (pc, ls, aR a b' :: aR 46 b :: st) (HM q V) = RUN (d + 6) y (pc + 3, ls, aR 46 b :: st) (HM q' V') ∧ BTm n0 q' V' b (m + k) ∧ FS n0 1 200 q V q' V' := by
  obtain ⟨L, hB, hm, ha⟩ := hB
  obtain ⟨q', V', e, B, f⟩ := k_apS (d := d) (y := y) (pc := pc) (ls := ls) (st := st) hcd hs h hB (by omega)
  exact ⟨q', V', e, ⟨_, B, by rw [List.length_append]; omega, asc_app ha h.1.1⟩, f⟩
theorem m_N {x : Int} (hcd : am_cd y pc = i_call 383 1 9) (hs : Nat.ble st.length 4 = true) (hB : BTm n0 q V b m) (hx : 0 ≤ x ∧ x < 1000) (hl : m < 60) : ∃ q' V', RUN (d + 6) y (pc, ls, aI (iI x) :: aR 46 b :: st) (HM q V) = RUN (d + 6) y (pc + 3, ls, aR 46 b :: st) (HM q' V') ∧ BTm n0 q' V' b (m + 3) ∧ FS n0 1 200 q V q' V' := by
  obtain ⟨L, hB, hm, ha⟩ := hB
  obtain ⟨q', V', e, B, f⟩ := k_apN (d := d) (y := y) (pc := pc) (ls := ls) (st := st) hcd hs hB hx (by omega)
  have := numL_len (n := x)
  exact ⟨q', V', e, ⟨_, B, by rw [List.length_append]; omega, asc_app ha (numL_asc hx)⟩, f⟩
theorem m_C {x : Int} (hcd : am_cd y pc = i_call 353 1 9) (hs : Nat.ble st.length 4 = true) (hB : BTm n0 q V b m) (hx : 0 ≤ x ∧ x < 128) (hl : m < 70) : ∃ q' V', RUN (d + 6) y (pc, ls, aI (iI x) :: aR 46 b :: st) (HM q V) = RUN (d + 6) y (pc + 3, ls, aR 46 b :: st) (HM q' V') ∧ BTm n0 q' V' b (m + 1) ∧ FS n0 1 200 q V q' V' := by
  obtain ⟨L, hB, hm, ha⟩ := hB
  obtain ⟨q', V', e, B, f⟩ := k_apC (d := d) (y := y) (pc := pc) (ls := ls) (st := st) hcd hs hB hx (by omega)
  exact ⟨q', V', e, ⟨_, B, by rw [List.length_append]; show L.length + 1 ≤ m + 1; omega, asc_app ha (asc_one hx)⟩, f⟩
theorem m_ts (hcd : am_cd y pc = i_call 374 0 9) (hs : Nat.ble st.length 4 = true) (hB : BTm n0 q V b m) : ∃ q' V' s mb L, RUN (d + 6) y (pc, ls, aR 46 b :: st) (HM q V) = RUN (d + 6) y (pc + 3, ls, aR 46 s :: st) (HM q' V') ∧ ST q'.2.1.1 q' V' 46 s mb L ∧ FS q.2.1.1 2 204 q V q' V' := by
  obtain ⟨L, hB, hm, ha⟩ := hB
  obtain ⟨q', V', s, mb, e, S, f, -⟩ := k_ts (d := d) (y := y) (pc := pc) (ls := ls) (st := st) hcd hs hB ha
  exact ⟨q', V', s, mb, L, e, S, f⟩
end
/-- how a call ends that makes so many cells -/
def OPm (m s : Nat) (C : Int) (n0 : Nat) (q : QQ) (V : VV) (v : Int) (q' : QQ) (W : VV) : Prop := adv m s n0 q q' ∧ k46 n0 V W ∧ LQ C W ∧ (((-100 ≤ v ∧ v < 0) ∧ stay V W) ∨ ((0 ≤ v ∧ v < 2147483648) ∧ pushd V W))
section
variable {B : Int} {d n0 : Nat} {q : QQ} {V : VV} {bs : Nat} {j k c e : Int} {l7 : Option AV}
theorem OPd.up {m m' s' : Nat} {C C' v : Int} {q' : QQ} {W : VV} (h : OPd m C n0 q V v q' W) (hm : m ≤ m') (hs : 6 * m ≤ s') (hC : C ≤ C') : OPm m' s' C' n0 q V v q' W := ⟨h.1.mono hm hs (Nat.le_refl _), h.2.1, h.2.2.1.mono hC, h.2.2.2⟩
theorem OPm.R {m s : Nat} {C v : Int} {q' : QQ} {W : VV} (h : OPm m s C n0 q V v q' W) : R32 v := by
  rcases h.2.2.2 with ⟨z, _⟩ | ⟨z, _⟩ <;> omega
theorem stay_FS {m s : Nat} {q' : QQ} {W : VV} (f : FS n0 m s q V q' W) : stay V W := ⟨rowEq_of (fun a z1 z2 => f.2 a 0 (Or.inl (by omega))), f.2 11 0 (Or.inl (by decide)), fun a b z1 z2 z3 => f.2 a b (Or.inl (by omega))⟩
theorem und_text (h : LQ B V) (hB : B ≤ 999700) (he : 0 ≤ e ∧ e < 2147483648) (hq : 136 ≤ q.2.1.1) : ∃ v q' W, RUN (d + 15) 392 (172, [sR 0 0, sR 1 0, sR 46 bs, sI j, sI k, sI c, sI e, l7], []) (HM q V) = RUN (d + 15) 392 (323, [sR 0 0, sR 1 0, sR 46 bs, sI j, sI k, sI c, sI e, sI v], []) (HM q' W) ∧ OPm 18 2700 (B + 100) q.2.1.1 q V v q' W := by
  have u4 := usr_nn e 4 (by decide) (by decide)
  have u10 := usr_nn e 10 (by decide) (by decide)
  have u14 := usr_nn e 14 (by decide) (by decide)
  have u17 := usr_nn e 17 (by decide) (by decide)
  have u20 := usr_nn e 20 (by decide) (by decide)
  generalize hls : ([sR 0 0, sR 1 0, sR 46 bs, sI j, sI k, sI c, sI e, l7] : List (Option AV)) = ls
  obtain ⟨q0, V0, e0, B0, f0⟩ := m_new (d := d + 9) (y := 392) (pc := 173) (p1 := 176) (p2 := 177) (ls := ls) (st := [aR 1 0]) (q := q) (V := V) rfl rfl rfl rfl hq
  obtain ⟨q1, V1, e1, B1, f1⟩ := m_S (d := d + 9) (y := 392) (pc := 183) (ls := ls) (st := [aR 1 0]) rfl rfl (st_21 (q := q0) (V := V0)) rfl B0 (by decide)
  obtain ⟨q2, V2, e2, B2, f2⟩ := m_N (d := d + 9) (y := 392) (pc := 191) (ls := ls) (st := [aR 1 0]) (x := e % 10) rfl rfl B1 (by omega) (by decide)
  obtain ⟨q3, V3, e3, B3, f3⟩ := m_S (d := d + 9) (y := 392) (pc := 197) (ls := ls) (st := [aR 1 0]) rfl rfl (st_22 (q := q2) (V := V2)) rfl B2 (by decide)
  obtain ⟨q4, V4, e4, B4, f4⟩ := m_N (d := d + 9) (y := 392) (pc := 207) (ls := ls) (st := [aR 1 0]) (x := bUsr e 4 % 33) rfl rfl B3 (by omega) (by decide)
  obtain ⟨q5, V5, e5, B5, f5⟩ := m_S (d := d + 9) (y := 392) (pc := 213) (ls := ls) (st := [aR 1 0]) rfl rfl (st_23 (q := q4) (V := V4)) rfl B4 (by decide)
  obtain ⟨q6, V6, e6, B6, f6⟩ := m_N (d := d + 9) (y := 392) (pc := 224) (ls := ls) (st := [aR 1 0]) (x := bUsr e 10 % 10) rfl rfl B5 (by omega) (by decide)
  obtain ⟨q7, V7, e7, B7, f7⟩ := m_S (d := d + 9) (y := 392) (pc := 230) (ls := ls) (st := [aR 1 0]) rfl rfl (st_24 (q := q6) (V := V6)) rfl B6 (by decide)
  obtain ⟨q8, V8, e8, B8, f8⟩ := m_N (d := d + 9) (y := 392) (pc := 241) (ls := ls) (st := [aR 1 0]) (x := bUsr e 14 % 8) rfl rfl B7 (by omega) (by decide)
  obtain ⟨q9, V9, e9, B9, f9⟩ := m_S (d := d + 9) (y := 392) (pc := 247) (ls := ls) (st := [aR 1 0]) rfl rfl (st_18 (q := q8) (V := V8)) rfl B8 (by decide)
  obtain ⟨q10, V10, e10, B10, f10⟩ := m_N (d := d + 9) (y := 392) (pc := 258) (ls := ls) (st := [aR 1 0]) (x := bUsr e 17 % 8) rfl rfl B9 (by omega) (by decide)
  obtain ⟨q11, V11, e11, B11, f11⟩ := m_S (d := d + 9) (y := 392) (pc := 264) (ls := ls) (st := [aR 1 0]) rfl rfl (st_16 (q := q10) (V := V10)) rfl B10 (by decide)
  obtain ⟨q12, V12, e12, B12, f12⟩ := m_C (d := d + 9) (y := 392) (pc := 279) (ls := ls) (st := [aR 1 0]) (x := (97 + bUsr e 20 % 16) % 65536) rfl rfl B11 (by omega) (by decide)
  obtain ⟨q13, V13, s13, mb, L, e13, S13, f13⟩ := m_ts (d := d + 9) (y := 392) (pc := 282) (ls := ls) (st := [aR 1 0]) rfl rfl B12
  have fa : FS q.2.1.1 14 2420 q V q12 V12 := ((((((((((((f0.trans f1).trans f2).trans f3).trans f4).trans f5).trans f6).trans f7).trans f8).trans f9).trans f10).trans f11).trans f12)
  have ca : q.2.1.1 ≤ q12.2.1.1 := fa.1.2.2.1.1
  have fb : FS q.2.1.1 16 2624 q V q13 V13 := fa.trans (f13.mono (Nat.le_refl _) (Nat.le_refl _) ca)
  have cb : q.2.1.1 ≤ q13.2.1.1 := fb.1.2.2.1.1
  have lb := h.of_FS (by omega) fb
  obtain ⟨v, q14, W, e14, a14, k14, l14, r14⟩ := op_395e (d := d) (n0 := q13.2.1.1) hB lb S13 (Nat.le_refl _)
  refine ⟨v, q14, W, ?_, (fb.1.trans (a14.mono (Nat.le_refl _) (Nat.le_refl _) cb)).mono (by decide) (by decide) (Nat.le_refl _), fb.k46.trans (fun x hx => k14 x (by omega)), l14, ?_⟩
  · have hs : RUN (d + 15) 392 (172, ls, []) (HM q V) = RUN (d + 15) 392 (173, ls, [aR 1 0]) (HM q V) := by
      rw [← hls]
      exact k_aload rfl rfl
    refine hs.trans (e0.trans ?_)
    refine Eq.trans (k_push rfl) (e1.trans ?_)
    have h2 : RUN (d + 15) 392 (186, ls, [aR 46 q.2.1.1, aR 1 0]) (HM q1 V1) = RUN (d + 15) 392 (191, ls, [aI (iI (e % 10)), aR 46 q.2.1.1, aR 1 0]) (HM q1 V1) := by
      rw [← hls]
      refine Eq.trans (k_iload rfl rfl) ?_
      refine Eq.trans (k_pushi (10) rfl rfl) ?_
      refine Eq.trans (k_div rfl (iI_rem (a := e) (by omega) ⟨by decide, by decide⟩) ⟨by decide, by decide⟩) ?_
      exact rfl
    refine h2.trans (e2.trans ?_)
    refine Eq.trans (k_push rfl) (e3.trans ?_)
    have h4 : RUN (d + 15) 392 (200, ls, [aR 46 q.2.1.1, aR 1 0]) (HM q3 V3) = RUN (d + 15) 392 (207, ls, [aI (iI (bUsr e 4 % 33)), aR 46 q.2.1.1, aR 1 0]) (HM q3 V3) := by
      rw [← hls]
      refine Eq.trans (k_iload rfl rfl) ?_
      refine Eq.trans (k_pushi (4) rfl rfl) ?_
      refine Eq.trans (k_bin rfl (usr_e _ _)) ?_
      refine Eq.trans (k_pushi (33) rfl rfl) ?_
      refine Eq.trans (k_div rfl (iI_rem (a := bUsr e 4) (by omega) ⟨by decide, by decide⟩) ⟨by decide, by decide⟩) ?_
      exact rfl
    refine h4.trans (e4.trans ?_)
    refine Eq.trans (k_push rfl) (e5.trans ?_)
    have h6 : RUN (d + 15) 392 (216, ls, [aR 46 q.2.1.1, aR 1 0]) (HM q5 V5) = RUN (d + 15) 392 (224, ls, [aI (iI (bUsr e 10 % 10)), aR 46 q.2.1.1, aR 1 0]) (HM q5 V5) := by
      rw [← hls]
      refine Eq.trans (k_iload rfl rfl) ?_
      refine Eq.trans (k_pushi (10) rfl rfl) ?_
      refine Eq.trans (k_bin rfl (usr_e _ _)) ?_
      refine Eq.trans (k_pushi (10) rfl rfl) ?_
      refine Eq.trans (k_div rfl (iI_rem (a := bUsr e 10) (by omega) ⟨by decide, by decide⟩) ⟨by decide, by decide⟩) ?_
      exact rfl
    refine h6.trans (e6.trans ?_)
    refine Eq.trans (k_push rfl) (e7.trans ?_)
    have h8 : RUN (d + 15) 392 (233, ls, [aR 46 q.2.1.1, aR 1 0]) (HM q7 V7) = RUN (d + 15) 392 (241, ls, [aI (iI (bUsr e 14 % 8)), aR 46 q.2.1.1, aR 1 0]) (HM q7 V7) := by
      rw [← hls]
      refine Eq.trans (k_iload rfl rfl) ?_
      refine Eq.trans (k_pushi (14) rfl rfl) ?_
      refine Eq.trans (k_bin rfl (usr_e _ _)) ?_
      refine Eq.trans (k_pushi (8) rfl rfl) ?_
      refine Eq.trans (k_div rfl (iI_rem (a := bUsr e 14) (by omega) ⟨by decide, by decide⟩) ⟨by decide, by decide⟩) ?_
      exact rfl
    refine h8.trans (e8.trans ?_)
    refine Eq.trans (k_push rfl) (e9.trans ?_)
    have h10 : RUN (d + 15) 392 (250, ls, [aR 46 q.2.1.1, aR 1 0]) (HM q9 V9) = RUN (d + 15) 392 (258, ls, [aI (iI (bUsr e 17 % 8)), aR 46 q.2.1.1, aR 1 0]) (HM q9 V9) := by
      rw [← hls]
      refine Eq.trans (k_iload rfl rfl) ?_
      refine Eq.trans (k_pushi (17) rfl rfl) ?_
      refine Eq.trans (k_bin rfl (usr_e _ _)) ?_
      refine Eq.trans (k_pushi (8) rfl rfl) ?_
      refine Eq.trans (k_div rfl (iI_rem (a := bUsr e 17) (by omega) ⟨by decide, by decide⟩) ⟨by decide, by decide⟩) ?_
      exact rfl
    refine h10.trans (e10.trans ?_)
    refine Eq.trans (k_push rfl) (e11.trans ?_)
    have h12 : RUN (d + 15) 392 (267, ls, [aR 46 q.2.1.1, aR 1 0]) (HM q11 V11) = RUN (d + 15) 392 (279, ls, [aI (iI ((97 + bUsr e 20 % 16) % 65536)), aR 46 q.2.1.1, aR 1 0]) (HM q11 V11) := by
      rw [← hls]
      refine Eq.trans (k_pushi (97) rfl rfl) ?_
      refine Eq.trans (k_iload rfl rfl) ?_
      refine Eq.trans (k_pushi (20) rfl rfl) ?_
      refine Eq.trans (k_bin rfl (usr_e _ _)) ?_
      refine Eq.trans (k_pushi (16) rfl rfl) ?_
      refine Eq.trans (k_div rfl (iI_rem (a := bUsr e 20) (by omega) ⟨by decide, by decide⟩) ⟨by decide, by decide⟩) ?_
      refine Eq.trans (k_bin rfl (iI_add _ _)) ?_
      refine Eq.trans (k_un rfl (iI_i2c _)) ?_
      exact rfl
    refine h12.trans (e12.trans ?_)
    refine e13.trans ?_
    rw [← hls]
    refine Eq.trans (RUN_ci rfl rfl rfl e14 a14.qle) ?_
    refine Eq.trans (k_store rfl) ?_
    exact k_goto rfl
  · rcases r14 with ⟨z, st⟩ | ⟨z, p⟩
    · exact Or.inl ⟨z, stay_stay (stay_FS fb) st⟩
    · exact Or.inr ⟨z, push_stay (stay_FS fb) p⟩
theorem und_0 (h : LQ B V) (hB : B ≤ 999700) (he : 0 ≤ e ∧ e < 2147483648) : ∃ v q' W, RUN (d + 15) 392 (84, [sR 0 0, sR 1 0, sR 46 bs, sI j, sI k, sI c, sI e, l7], []) (HM q V) = RUN (d + 15) 392 (323, [sR 0 0, sR 1 0, sR 46 bs, sI j, sI k, sI c, sI e, sI v], []) (HM q' W) ∧ OPm 18 2700 (B + 100) n0 q V v q' W := by
  have u4 := usr_nn e 4 (by decide) (by decide)
  have u6 := usr_nn e 6 (by decide) (by decide)
  have u8 := usr_nn e 8 (by decide) (by decide)
  have u10 := usr_nn e 10 (by decide) (by decide)
  obtain ⟨v, q', W, e1, o1, -⟩ := op_310 (d := d + 11) (n0 := n0) (q := q) h (by omega) (x1 := e % 33) (x2 := bUsr e 6 % 11) (by omega) (by omega)
  refine ⟨v, q', W, ?_, o1.up (by decide) (by decide) (by omega)⟩
  refine Eq.trans (k_aload rfl rfl) ?_
  refine Eq.trans (k_iload rfl rfl) ?_
  refine Eq.trans (k_pushi (33) rfl rfl) ?_
  refine Eq.trans (k_div rfl (iI_rem (a := e) (by omega) ⟨by decide, by decide⟩) ⟨by decide, by decide⟩) ?_
  refine Eq.trans (k_iload rfl rfl) ?_
  refine Eq.trans (k_pushi (6) rfl rfl) ?_
  refine Eq.trans (k_bin rfl (usr_e _ _)) ?_
  refine Eq.trans (k_pushi (11) rfl rfl) ?_
  refine Eq.trans (k_div rfl (iI_rem (a := bUsr e 6) (by omega) ⟨by decide, by decide⟩) ⟨by decide, by decide⟩) ?_
  refine Eq.trans (RUN_ci rfl rfl rfl e1 o1.1.qle) ?_
  refine Eq.trans (k_store rfl) ?_
  exact k_goto rfl
theorem und_1 (h : LQ B V) (hB : B ≤ 999700) (he : 0 ≤ e ∧ e < 2147483648) : ∃ v q' W, RUN (d + 15) 392 (106, [sR 0 0, sR 1 0, sR 46 bs, sI j, sI k, sI c, sI e, l7], []) (HM q V) = RUN (d + 15) 392 (323, [sR 0 0, sR 1 0, sR 46 bs, sI j, sI k, sI c, sI e, sI v], []) (HM q' W) ∧ OPm 18 2700 (B + 100) n0 q V v q' W := by
  have u4 := usr_nn e 4 (by decide) (by decide)
  have u6 := usr_nn e 6 (by decide) (by decide)
  have u8 := usr_nn e 8 (by decide) (by decide)
  have u10 := usr_nn e 10 (by decide) (by decide)
  obtain ⟨v, q', W, e1, o1, -⟩ := op_311 (d := d + 11) (n0 := n0) (q := q) h (by omega) (x1 := e % 33) (x2 := bUsr e 6 % 11) (x3 := bUsr e 10 % 5) (by omega) (by omega) (by omega)
  refine ⟨v, q', W, ?_, o1.up (by decide) (by decide) (by omega)⟩
  refine Eq.trans (k_aload rfl rfl) ?_
  refine Eq.trans (k_iload rfl rfl) ?_
  refine Eq.trans (k_pushi (33) rfl rfl) ?_
  refine Eq.trans (k_div rfl (iI_rem (a := e) (by omega) ⟨by decide, by decide⟩) ⟨by decide, by decide⟩) ?_
  refine Eq.trans (k_iload rfl rfl) ?_
  refine Eq.trans (k_pushi (6) rfl rfl) ?_
  refine Eq.trans (k_bin rfl (usr_e _ _)) ?_
  refine Eq.trans (k_pushi (11) rfl rfl) ?_
  refine Eq.trans (k_div rfl (iI_rem (a := bUsr e 6) (by omega) ⟨by decide, by decide⟩) ⟨by decide, by decide⟩) ?_
  refine Eq.trans (k_iload rfl rfl) ?_
  refine Eq.trans (k_pushi (10) rfl rfl) ?_
  refine Eq.trans (k_bin rfl (usr_e _ _)) ?_
  refine Eq.trans (k_pushi (5) rfl rfl) ?_
  refine Eq.trans (k_div rfl (iI_rem (a := bUsr e 10) (by omega) ⟨by decide, by decide⟩) ⟨by decide, by decide⟩) ?_
  refine Eq.trans (RUN_ci rfl rfl rfl e1 o1.1.qle) ?_
  refine Eq.trans (k_store rfl) ?_
  exact k_goto rfl
theorem und_2 (h : LQ B V) (hB : B ≤ 999700) (he : 0 ≤ e ∧ e < 2147483648) : ∃ v q' W, RUN (d + 15) 392 (135, [sR 0 0, sR 1 0, sR 46 bs, sI j, sI k, sI c, sI e, l7], []) (HM q V) = RUN (d + 15) 392 (323, [sR 0 0, sR 1 0, sR 46 bs, sI j, sI k, sI c, sI e, sI v], []) (HM q' W) ∧ OPm 18 2700 (B + 100) n0 q V v q' W := by
  have u4 := usr_nn e 4 (by decide) (by decide)
  have u6 := usr_nn e 6 (by decide) (by decide)
  have u8 := usr_nn e 8 (by decide) (by decide)
  have u10 := usr_nn e 10 (by decide) (by decide)
  obtain ⟨v, q', W, e1, o1⟩ := op_394 (d := d + 11) (n0 := n0) (q := q) h (by omega) (x1 := e % 9) (x2 := bUsr e 4 % 5) (by omega) (by omega)
  refine ⟨v, q', W, ?_, o1.up (by decide) (by decide) (by omega)⟩
  refine Eq.trans (k_aload rfl rfl) ?_
  refine Eq.trans (k_iload rfl rfl) ?_
  refine Eq.trans (k_pushi (9) rfl rfl) ?_
  refine Eq.trans (k_div rfl (iI_rem (a := e) (by omega) ⟨by decide, by decide⟩) ⟨by decide, by decide⟩) ?_
  refine Eq.trans (k_iload rfl rfl) ?_
  refine Eq.trans (k_pushi (4) rfl rfl) ?_
  refine Eq.trans (k_bin rfl (usr_e _ _)) ?_
  refine Eq.trans (k_pushi (5) rfl rfl) ?_
  refine Eq.trans (k_div rfl (iI_rem (a := bUsr e 4) (by omega) ⟨by decide, by decide⟩) ⟨by decide, by decide⟩) ?_
  refine Eq.trans (RUN_ci rfl rfl rfl e1 o1.1.qle) ?_
  refine Eq.trans (k_store rfl) ?_
  exact k_goto rfl
theorem und_3 (h : LQ B V) (hB : B ≤ 999700) (he : 0 ≤ e ∧ e < 2147483648) : ∃ v q' W, RUN (d + 15) 392 (155, [sR 0 0, sR 1 0, sR 46 bs, sI j, sI k, sI c, sI e, l7], []) (HM q V) = RUN (d + 15) 392 (323, [sR 0 0, sR 1 0, sR 46 bs, sI j, sI k, sI c, sI e, sI v], []) (HM q' W) ∧ OPm 18 2700 (B + 100) n0 q V v q' W := by
  have u4 := usr_nn e 4 (by decide) (by decide)
  have u6 := usr_nn e 6 (by decide) (by decide)
  have u8 := usr_nn e 8 (by decide) (by decide)
  have u10 := usr_nn e 10 (by decide) (by decide)
  obtain ⟨v, q', W, e1, o1, -⟩ := op_312 (d := d + 11) (n0 := n0) (q := q) h (by omega) (x1 := e % 21 - 10) (by omega)
  refine ⟨v, q', W, ?_, o1.up (by decide) (by decide) (by omega)⟩
  refine Eq.trans (k_aload rfl rfl) ?_
  refine Eq.trans (k_iload rfl rfl) ?_
  refine Eq.trans (k_pushi (21) rfl rfl) ?_
  refine Eq.trans (k_div rfl (iI_rem (a := e) (by omega) ⟨by decide, by decide⟩) ⟨by decide, by decide⟩) ?_
  refine Eq.trans (k_pushi (10) rfl rfl) ?_
  refine Eq.trans (k_bin rfl (iI_sub _ _)) ?_
  refine Eq.trans (RUN_ci rfl rfl rfl e1 o1.1.qle) ?_
  refine Eq.trans (k_store rfl) ?_
  exact k_goto rfl
theorem und_5 (h : LQ B V) (hB : B ≤ 999700) (he : 0 ≤ e ∧ e < 2147483648) : ∃ v q' W, RUN (d + 15) 392 (293, [sR 0 0, sR 1 0, sR 46 bs, sI j, sI k, sI c, sI e, l7], []) (HM q V) = RUN (d + 15) 392 (323, [sR 0 0, sR 1 0, sR 46 bs, sI j, sI k, sI c, sI e, sI v], []) (HM q' W) ∧ OPm 18 2700 (B + 100) n0 q V v q' W := by
  have u4 := usr_nn e 4 (by decide) (by decide)
  have u6 := usr_nn e 6 (by decide) (by decide)
  have u8 := usr_nn e 8 (by decide) (by decide)
  have u10 := usr_nn e 10 (by decide) (by decide)
  obtain ⟨v, q', W, e1, o1, -, -, -⟩ := op_313 (d := d + 8) (n0 := n0) (q := q) h (by omega) (x1 := e % 9) (x2 := bUsr e 4 % 9) (x3 := (97 + bUsr e 8 % 17) % 65536) (by omega) (by omega) (by omega)
  refine ⟨v, q', W, ?_, o1.up (by decide) (by decide) (by omega)⟩
  refine Eq.trans (k_aload rfl rfl) ?_
  refine Eq.trans (k_iload rfl rfl) ?_
  refine Eq.trans (k_pushi (9) rfl rfl) ?_
  refine Eq.trans (k_div rfl (iI_rem (a := e) (by omega) ⟨by decide, by decide⟩) ⟨by decide, by decide⟩) ?_
  refine Eq.trans (k_iload rfl rfl) ?_
  refine Eq.trans (k_pushi (4) rfl rfl) ?_
  refine Eq.trans (k_bin rfl (usr_e _ _)) ?_
  refine Eq.trans (k_pushi (9) rfl rfl) ?_
  refine Eq.trans (k_div rfl (iI_rem (a := bUsr e 4) (by omega) ⟨by decide, by decide⟩) ⟨by decide, by decide⟩) ?_
  refine Eq.trans (k_pushi (97) rfl rfl) ?_
  refine Eq.trans (k_iload rfl rfl) ?_
  refine Eq.trans (k_pushi (8) rfl rfl) ?_
  refine Eq.trans (k_bin rfl (usr_e _ _)) ?_
  refine Eq.trans (k_pushi (17) rfl rfl) ?_
  refine Eq.trans (k_div rfl (iI_rem (a := bUsr e 8) (by omega) ⟨by decide, by decide⟩) ⟨by decide, by decide⟩) ?_
  refine Eq.trans (k_bin rfl (iI_add _ _)) ?_
  refine Eq.trans (k_un rfl (iI_i2c _)) ?_
  refine Eq.trans (RUN_ci rfl rfl rfl e1 o1.1.qle) ?_
  exact Eq.trans (k_store rfl) rfl
theorem und_op (h : LQ B V) (hB : B ≤ 999700) (hc : 0 ≤ c ∧ c < 2147483648) (he : 0 ≤ e ∧ e < 2147483648) (hq : 136 ≤ q.2.1.1) : ∃ v q' W, RUN (d + 15) 392 (43, [sR 0 0, sR 1 0, sR 46 bs, sI j, sI k, sI c, sI e, l7], []) (HM q V) = RUN (d + 15) 392 (323, [sR 0 0, sR 1 0, sR 46 bs, sI j, sI k, sI c, sI e, sI v], []) (HM q' W) ∧ OPm 18 2700 (B + 100) q.2.1.1 q V v q' W := by
  have go : ∀ n, am_tsw 0 4 [84, 106, 135, 155, 172] 293 (iI (c % 9)) = n → RUN (d + 15) 392 (43, [sR 0 0, sR 1 0, sR 46 bs, sI j, sI k, sI c, sI e, l7], []) (HM q V) = RUN (d + 15) 392 (n, [sR 0 0, sR 1 0, sR 46 bs, sI j, sI k, sI c, sI e, l7], []) (HM q V) := fun n hn => by
   refine Eq.trans (k_iload rfl rfl) ?_
   refine Eq.trans (k_pushi (9) rfl rfl) ?_
   refine Eq.trans (k_div rfl (iI_rem (a := c) (by omega) ⟨by decide, by decide⟩) ⟨by decide, by decide⟩) ?_
   exact k_tsw rfl hn
  by_cases c0 : c % 9 = 0
  · obtain ⟨v, q', W, e1, o⟩ := und_0 (d := d) (n0 := q.2.1.1) (q := q) (bs := bs) (j := j) (k := k) (c := c) (l7 := l7) h hB he
    exact ⟨v, q', W, (go 84 (tsw_eq c0 rfl)).trans e1, o⟩
  by_cases c1 : c % 9 = 1
  · obtain ⟨v, q', W, e1, o⟩ := und_1 (d := d) (n0 := q.2.1.1) (q := q) (bs := bs) (j := j) (k := k) (c := c) (l7 := l7) h hB he
    exact ⟨v, q', W, (go 106 (tsw_eq c1 rfl)).trans e1, o⟩
  by_cases c2 : c % 9 = 2
  · obtain ⟨v, q', W, e1, o⟩ := und_2 (d := d) (n0 := q.2.1.1) (q := q) (bs := bs) (j := j) (k := k) (c := c) (l7 := l7) h hB he
    exact ⟨v, q', W, (go 135 (tsw_eq c2 rfl)).trans e1, o⟩
  by_cases c3 : c % 9 = 3
  · obtain ⟨v, q', W, e1, o⟩ := und_3 (d := d) (n0 := q.2.1.1) (q := q) (bs := bs) (j := j) (k := k) (c := c) (l7 := l7) h hB he
    exact ⟨v, q', W, (go 155 (tsw_eq c3 rfl)).trans e1, o⟩
  by_cases c4 : c % 9 = 4
  · obtain ⟨v, q', W, e1, o⟩ := und_text (d := d) (q := q) (bs := bs) (j := j) (k := k) (c := c) (l7 := l7) h hB he hq
    exact ⟨v, q', W, (go 172 (tsw_eq c4 rfl)).trans e1, o⟩
  · obtain ⟨v, q', W, e1, o⟩ := und_5 (d := d) (n0 := q.2.1.1) (q := q) (bs := bs) (j := j) (k := k) (c := c) (l7 := l7) h hB he
    exact ⟨v, q', W, (go 293 (tsw_out (by omega) (by omega))).trans e1, o⟩
end
