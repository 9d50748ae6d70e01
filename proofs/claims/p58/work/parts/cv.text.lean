/-! texts of the start and made ones: their length, their characters, laid behind another; a builder made, and its text -/
/-- a text: of the start, or made before the cell n0 -/
def ST (n0 : Nat) (q : QQ) (V : VV) (a b mb : Nat) (L : List Int) : Prop := ((∀ i : Nat, 0 ≤ L.getD i 0 ∧ L.getD i 0 < 128) ∧ L.length < 200) ∧
  ((a = 0 ∧ am_PS q.1.1 q.1.2.1 b = some (Sum.inr (91, [aR 0 mb, aI 0])) ∧ ∃ g, am_PS q.1.1 q.1.2.1 mb = some (Sum.inl (10, L.length, g)) ∧ ∀ j : Nat, j < L.length → g j = aI (iI (L.getD j 0))) ∨
   (a = 46 ∧ q.1.2.2 b = some (Sum.inr (10, [aR 46 mb, aI 0, aI 0, aI 0])) ∧ V 46 b 1 = 0 ∧ q.1.2.2 mb = some (Sum.inl (7, L.length, fun _ => aN)) ∧ TX V mb L ∧ b < n0 ∧ mb < n0))
theorem ST.keep {n0 m s a b mb : Nat} {q q' : QQ} {V W : VV} {L : List Int} (h : ST n0 q V a b mb L) (f : FS n0 m s q V q' W) : ST n0 q' W a b mb L := by
  obtain ⟨h1, h2⟩ := h
  obtain ⟨⟨⟨f1, f2, f3⟩, _⟩, f4⟩ := f
  refine ⟨h1, ?_⟩
  rcases h2 with ⟨e, k1, g, k2, k3⟩ | ⟨e, k1, k2, k3, k4, k5, k6⟩
  · exact Or.inl ⟨e, by rw [f1, f2]; exact k1, g, by rw [f1, f2]; exact k2, k3⟩
  · refine Or.inr ⟨e, by rw [f3 b k5]; exact k1, by rw [f4 46 b (Or.inr k5)]; exact k2, by rw [f3 mb k6]; exact k3, fun i hi => ?_, k5, k6⟩
    rw [f4 46 mb (Or.inr k6)]
    exact k4 i hi
theorem ST.mono {n0 n1 a b mb : Nat} {q : QQ} {V : VV} {L : List Int} (h : ST n0 q V a b mb L) (hn : n0 ≤ n1) : ST n1 q V a b mb L := by
  obtain ⟨h1, h2⟩ := h
  refine ⟨h1, ?_⟩
  rcases h2 with h2 | ⟨e, k1, k2, k3, k4, k5, k6⟩
  · exact Or.inl h2
  · exact Or.inr ⟨e, k1, k2, k3, k4, by omega, by omega⟩
section
variable {d y pc nx n0 a b mb : Nat} {ls : List (Option AV)} {st : List AV} {q : QQ} {V : VV} {L : List Int}
theorem k_sv (hcd : am_cd y pc = i_or 0 (i_getw 91 0 nx) (i_getf 10 0 nx)) (h : ST n0 q V a b mb L) : RUN d y (pc, ls, aR a b :: st) (HM q V) = RUN d y (nx, ls, aR a mb :: st) (HM q V) := by
  rcases h.2 with ⟨e, k1, _⟩ | ⟨e, k1, _⟩
  · subst e
    refine RUN_gi (cs := []) hcd ?_ trivial
    show (match am_PS q.1.1 q.1.2.1 b with
      | some (Sum.inr (c', fs)) => (match Nat.beq c' 91 with
        | true => go nx ls (fs.getD 0 aN :: st) (HM q V)
        | false => stuck)
      | _ => stuck) = _
    rw [k1]
    rfl
  · subst e
    refine RUN_gi (cs := []) hcd ?_ trivial
    show (match am_S0 q.1.1 q.1.2 46 b with
      | some (Sum.inr (c', fs)) => (match Nat.beq c' 10 with
        | true => go nx ls (am_fld (HM q V) 46 b fs 0 :: st) (HM q V)
        | false => stuck)
      | _ => stuck) = _
    rw [show am_S0 q.1.1 q.1.2 46 b = some (Sum.inr (10, [aR 46 mb, aI 0, aI 0, aI 0])) from k1]
    rfl
theorem k_sc (hcd : am_cd y pc = i_or 0 (i_getw 91 1 nx) (i_getf 10 1 nx)) (h : ST n0 q V a b mb L) : RUN d y (pc, ls, aR a b :: st) (HM q V) = RUN d y (nx, ls, aI (iI 0) :: st) (HM q V) := by
  rcases h.2 with ⟨e, k1, _⟩ | ⟨e, k1, k2, _⟩
  · subst e
    refine RUN_gi (cs := []) hcd ?_ trivial
    show (match am_PS q.1.1 q.1.2.1 b with
      | some (Sum.inr (c', fs)) => (match Nat.beq c' 91 with
        | true => go nx ls (fs.getD 1 aN :: st) (HM q V)
        | false => stuck)
      | _ => stuck) = _
    rw [k1]
    rfl
  · subst e
    refine RUN_gi (cs := []) hcd ?_ trivial
    show (match am_S0 q.1.1 q.1.2 46 b with
      | some (Sum.inr (c', fs)) => (match Nat.beq c' 10 with
        | true => go nx ls (am_fld (HM q V) 46 b fs 1 :: st) (HM q V)
        | false => stuck)
      | _ => stuck) = _
    rw [show am_S0 q.1.1 q.1.2 46 b = some (Sum.inr (10, [aR 46 mb, aI 0, aI 0, aI 0])) from k1]
    show go nx ls (aI (iI (V 46 b 1)) :: st) (HM q V) = _
    rw [k2]
theorem k_sl (hcd : am_cd y pc = i_alen nx) (h : ST n0 q V a b mb L) : RUN d y (pc, ls, aR a mb :: st) (HM q V) = RUN d y (nx, ls, aI (iI (L.length : Int)) :: st) (HM q V) := by
  rcases h.2 with ⟨e, k1, g, k2, _⟩ | ⟨e, k1, k2, k3, _⟩
  · subst e
    exact k_alen hcd k2
  · subst e
    exact k_alen hcd k3
theorem s0_or {y' : Nat} (h : ST n0 q V a b mb L) (hs : Nat.ble st.length 4 = true) : i_or 0 (i_call y' 0 91) (i_call y' 0 10) (pc, ls, aR a b :: st) (HM q V) = ([], Sum.inr (Sum.inl (y', [aR a b], (pc, ls, st)))) := by
  rcases h.2 with ⟨e, k1, _⟩ | ⟨e, k1, _⟩
  · subst e
    show (match am_PS q.1.1 q.1.2.1 b with
      | some (Sum.inr (c', _)) => (match Nat.beq c' 91, Nat.ble st.length 4 with
        | true, true => ([], Sum.inr (Sum.inl (y', Sum.inr (Sum.inl (0, b)) :: [], (pc, ls, st))))
        | _, _ => stuck)
      | _ => stuck) = _
    rw [k1]
    dsimp only
    rw [Nat.beq_refl, hs]
  · subst e
    exact c0_46 k1 hs
theorem s1_or {y' : Nat} {x : AV} (h : ST n0 q V a b mb L) (hs : Nat.ble st.length 4 = true) : i_or 1 (i_call y' 1 91) (i_call y' 1 10) (pc, ls, x :: aR a b :: st) (HM q V) = ([], Sum.inr (Sum.inl (y', [aR a b, x], (pc, ls, st)))) := by
  rcases h.2 with ⟨e, k1, _⟩ | ⟨e, k1, _⟩
  · subst e
    show (match am_PS q.1.1 q.1.2.1 b with
      | some (Sum.inr (c', _)) => (match Nat.beq c' 91, Nat.ble st.length 4 with
        | true, true => ([], Sum.inr (Sum.inl (y', Sum.inr (Sum.inl (0, b)) :: [x], (pc, ls, st))))
        | _, _ => stuck)
      | _ => stuck) = _
    rw [k1]
    dsimp only
    rw [Nat.beq_refl, hs]
  · subst e
    exact c1_46 k1 hs
theorem s3_or {y' : Nat} {x z w : AV} (h : ST n0 q V a b mb L) (hs : Nat.ble st.length 4 = true) : i_or 3 (i_call y' 3 91) (i_call y' 3 10) (pc, ls, w :: z :: x :: aR a b :: st) (HM q V) = ([], Sum.inr (Sum.inl (y', [aR a b, x, z, w], (pc, ls, st)))) := by
  rcases h.2 with ⟨e, k1, _⟩ | ⟨e, k1, _⟩
  · subst e
    show (match am_PS q.1.1 q.1.2.1 b with
      | some (Sum.inr (c', _)) => (match Nat.beq c' 91, Nat.ble st.length 4 with
        | true, true => ([], Sum.inr (Sum.inl (y', Sum.inr (Sum.inl (0, b)) :: [x, z, w], (pc, ls, st))))
        | _, _ => stuck)
      | _ => stuck) = _
    rw [k1]
    dsimp only
    rw [Nat.beq_refl, hs]
  · subst e
    exact c3_46 k1 hs
theorem k_sb {e : Int} (hcd : am_cd y pc = i_bald nx) (h : ST n0 q V a b mb L) (he : 0 ≤ e ∧ e < (L.length : Int)) : RUN d y (pc, ls, aI (iI e) :: aR a mb :: st) (HM q V) = RUN d y (nx, ls, aI (iI (L.getD e.toNat 0)) :: st) (HM q V) := by
  have hl := h.1.2
  rcases h.2 with ⟨e0, k1, g, k2, k3⟩ | ⟨e0, k1, k2, k3, k4, _⟩
  · subst e0
    exact k_bald0 hcd k2 (by omega) he (k3 e.toNat (by omega))
  · subst e0
    have t := k4 e.toNat (by omega)
    rw [show (e.toNat : Int) = e by omega] at t
    rw [← t]
    exact k_bald46 hcd k3 (by omega) he
/-- the text is laid into a row from a place on -/
theorem k_sa {m c : Nat} {dp : Int} (hcd : am_cd y pc = i_acpyB nx) (hs : Nat.ble st.length 4 = true) (h : ST n0 q V a b mb L) (hm : q.1.2.2 m = some (Sum.inl (7, c, fun _ => aN))) (h2 : 0 ≤ dp ∧ dp < 1000) (h5 : dp + L.length ≤ (c : Int)) :
    ∃ W, RUN d y (pc, ls, aI (iI (L.length : Int)) :: aI (iI dp) :: aR 46 m :: aI (iI 0) :: aR a mb :: st) (HM q V) = RUN d y (nx, ls, st) (HM q W) ∧ (∀ x z, (¬ x = 46 ∨ ¬ z = m) → W x z = V x z) ∧ ∀ j : Int, W 46 m j = if dp ≤ j ∧ j < dp + L.length then L.getD (j - dp).toNat 0 else V 46 m j := by
  obtain ⟨⟨asc, hl⟩, h⟩ := h
  rcases h with ⟨e0, k1, g, k2, k3⟩ | ⟨e0, k1, k2, k3, k4, k5, k6⟩
  · subst e0
    refine ⟨layV V m dp L.length (fun j => L.getD j.toNat 0), k_acpyB0 hcd hs hm k2 (fun j hj => ⟨k3 j hj, asc j⟩) (by omega) (by omega) (Int.le_refl _) h5, fun x z hz => ?_, fun j => ?_⟩
    · unfold layV
      rw [cond_off (by omega)]
      rfl
    · unfold layV
      rw [cond_on]
      rfl
  · subst e0
    refine ⟨cpV V 46 m 46 mb 0 dp L.length, k_acpyB46 hcd hs hm k3 (fun j j1 j2 => ?_) ⟨by decide, by decide⟩ (by omega) (by omega) (by omega) h5, fun x z hz => cp46_off hz, fun j => ?_⟩
    · have t := k4 j.toNat (by omega)
      rw [show (j.toNat : Int) = j by omega] at t
      rw [t]
      have := asc j.toNat
      omega
    · unfold cpV
      rw [cond_on]
      show (if dp ≤ j ∧ j < dp + (L.length : Int) then V 46 mb (0 + (j - dp)) else V 46 m j) = _
      by_cases z : dp ≤ j ∧ j < dp + (L.length : Int)
      · rw [if_pos z, if_pos z]
        have t := k4 (j - dp).toNat (by omega)
        rw [show ((j - dp).toNat : Int) = 0 + (j - dp) by omega] at t
        exact t
      · rw [if_neg z, if_neg z]
end
section
variable {d n0 a b mb : Nat} {q : QQ} {V : VV} {L : List Int}
theorem c_182 (h : ST n0 q V a b mb L) : RUN d 182 (am_en 182 [aR a b]) (HM q V) = rI 0 (HM q V) := by
  refine (show RUN d 182 (0, [sR a b], []) (HM q V) = _ from ?_)
  refine Eq.trans (k_pushi (1) rfl rfl) ?_
  refine Eq.trans (Eq.trans (k_ifc ((1 : Int) = 0) rfl (iI_eq0 ⟨by decide, by decide⟩)) (cif_neg (by decide))) ?_
  refine Eq.trans (k_aload rfl rfl) ?_
  refine Eq.trans (k_sc rfl h) ?_
  refine Eq.trans (k_goto rfl) ?_
  exact k_iret rfl (Or.inl rfl)
theorem c_181 (h : ST n0 q V a b mb L) : RUN (d + 1) 181 (am_en 181 [aR a b]) (HM q V) = rI L.length (HM q V) := by
  refine (show RUN (d + 1) 181 (0, [sR a b], []) (HM q V) = _ from ?_)
  refine Eq.trans (k_aload rfl rfl) ?_
  refine Eq.trans (k_sv rfl h) ?_
  refine Eq.trans (k_sl rfl h) ?_
  refine Eq.trans (k_aload rfl rfl) ?_
  refine Eq.trans (RUN_ci rfl (s0_or h rfl) rfl (c_182 h) (qle_refl _)) ?_
  refine Eq.trans (k_bin rfl (sh_r0 _)) ?_
  exact k_iret rfl trivial
theorem c_176 (h : ST n0 q V a b mb L) : RUN d 176 (am_en 176 [aR a b]) (HM q V) = rI 1 (HM q V) := by
  refine (show RUN d 176 (0, [sR a b], []) (HM q V) = _ from ?_)
  refine Eq.trans (k_pushi (1) rfl rfl) ?_
  refine Eq.trans (Eq.trans (k_ifc ((1 : Int) = 0) rfl (iI_eq0 ⟨by decide, by decide⟩)) (cif_neg (by decide))) ?_
  refine Eq.trans (k_aload rfl rfl) ?_
  refine Eq.trans (k_sc rfl h) ?_
  refine Eq.trans (Eq.trans (k_ifcN ((0 : Int) = 0) rfl (iI_ne0 ⟨by decide, by decide⟩)) (cif_pos rfl)) ?_
  refine Eq.trans (k_pushi (1) rfl rfl) ?_
  refine Eq.trans (k_goto rfl) ?_
  exact k_iret rfl (iI_bool (z := 1) (by decide))
theorem c_178 {i n : Int} (hi : 0 ≤ i ∧ i < n) (hn : n < 1000) : RUN (d + 1) 178 (am_en 178 [aI (iI i), aI (iI n)]) (HM q V) = rV (HM q V) := by
  have e : ∀ v, RUN d 179 (0, [sI i, sI n, v], []) (HM q V) = rI i (HM q V) := by
    intro v
    refine Eq.trans (k_iload rfl rfl) ?_
    refine Eq.trans (Eq.trans (k_ifc (i < 0) rfl (iI_lt0 (by omega))) (cif_neg (by omega))) ?_
    refine Eq.trans (k_iload rfl rfl) ?_
    refine Eq.trans (k_iload rfl rfl) ?_
    refine Eq.trans (Eq.trans (k_icmpc (i < n) rfl (iI_lt (by omega) (by omega))) (cif_pos hi.2)) ?_
    refine Eq.trans (k_iload rfl rfl) ?_
    exact k_iret rfl trivial
  refine (show RUN (d + 1) 178 (0, [sI i, sI n], []) (HM q V) = _ from ?_)
  refine Eq.trans (k_iload rfl rfl) ?_
  refine Eq.trans (k_iload rfl rfl) ?_
  refine Eq.trans (k_push rfl) ?_
  refine Eq.trans (RUN_ci rfl rfl rfl (e _) (qle_refl _)) ?_
  refine Eq.trans (k_pop rfl) ?_
  exact k_ret rfl
theorem bAnd255 {x : Int} (h : 0 ≤ x ∧ x < 128) : bAnd x 255 = x := by
  have key : ∀ k : Nat, k < 128 → bAnd (k : Int) 255 = (k : Int) := by decide +kernel
  have := key x.toNat (by omega)
  rw [show (x.toNat : Int) = x by omega] at this
  exact this
theorem c_177 {i : Int} (h : ST n0 q V a b mb L) (hi : 0 ≤ i ∧ i < (L.length : Int)) : RUN (d + 2) 177 (am_en 177 [aR a mb, aI (iI i)]) (HM q V) = rI (L.getD i.toNat 0) (HM q V) := by
  have as := h.1.1 i.toNat
  have hl := h.1.2
  refine (show RUN (d + 2) 177 (0, [sR a mb, sI i], []) (HM q V) = _ from ?_)
  refine Eq.trans (k_iload rfl rfl) ?_
  refine Eq.trans (k_aload rfl rfl) ?_
  refine Eq.trans (k_sl rfl h) ?_
  refine Eq.trans (RUN_ci rfl rfl rfl (c_178 hi (by omega)) (qle_refl _)) ?_
  refine Eq.trans (k_aload rfl rfl) ?_
  refine Eq.trans (k_iload rfl rfl) ?_
  refine Eq.trans (k_sb rfl h hi) ?_
  refine Eq.trans (k_pushi (255) rfl rfl) ?_
  refine Eq.trans (k_bin (c := bAnd (L.getD i.toNat 0) 255) rfl (iI_of _).symm) ?_
  rw [bAnd255 as]
  refine Eq.trans (k_un rfl (iI_i2c _)) ?_
  rw [show L.getD i.toNat 0 % 65536 = L.getD i.toNat 0 by omega]
  exact k_iret rfl (okCh_of (by omega))
theorem c_175 {i : Int} (h : ST n0 q V a b mb L) (hi : 0 ≤ i ∧ i < (L.length : Int)) : RUN (d + 3) 175 (am_en 175 [aR a b, aI (iI i)]) (HM q V) = rI (L.getD i.toNat 0) (HM q V) := by
  have as := h.1.1 i.toNat
  refine (show RUN (d + 3) 175 (0, [sR a b, sI i], []) (HM q V) = _ from ?_)
  refine Eq.trans (k_aload rfl rfl) ?_
  refine Eq.trans (RUN_ci rfl (s0_or h rfl) rfl (c_176 h) (qle_refl _)) ?_
  refine Eq.trans (Eq.trans (k_ifc ((1 : Int) = 0) rfl (iI_eq0 ⟨by decide, by decide⟩)) (cif_neg (by decide))) ?_
  refine Eq.trans (k_aload rfl rfl) ?_
  refine Eq.trans (k_sv rfl h) ?_
  refine Eq.trans (k_iload rfl rfl) ?_
  refine Eq.trans (RUN_ci rfl rfl rfl (c_177 h hi) (qle_refl _)) ?_
  exact k_iret rfl (okCh_of (by omega))
theorem c_373 {m c : Nat} {dp : Int} (h : ST n0 q V a b mb L) (hm : q.1.2.2 m = some (Sum.inl (7, c, fun _ => aN))) (h2 : 0 ≤ dp ∧ dp < 1000) (h5 : dp + L.length ≤ (c : Int)) :
    ∃ W, RUN (d + 1) 373 (am_en 373 [aR a b, aR 46 m, aI (iI dp), aI (iI 0)]) (HM q V) = rV (HM q W) ∧ (∀ x z, (¬ x = 46 ∨ ¬ z = m) → W x z = V x z) ∧ ∀ j : Int, W 46 m j = if dp ≤ j ∧ j < dp + L.length then L.getD (j - dp).toNat 0 else V 46 m j := by
  obtain ⟨W, e, w1, w2⟩ := k_sa (d := d + 1) (y := 373) (pc := 22) (nx := 25) (ls := [sR a b, sR 46 m, sI dp, sI 0]) (st := []) (dp := dp) rfl rfl h hm h2 h5
  refine ⟨W, ?_, w1, w2⟩
  refine (show RUN (d + 1) 373 (0, [sR a b, sR 46 m, sI dp, sI 0], []) (HM q V) = _ from ?_)
  refine Eq.trans (k_aload rfl rfl) ?_
  refine Eq.trans (RUN_ci rfl (s0_or h rfl) rfl (c_182 h) (qle_refl _)) ?_
  refine Eq.trans (k_iload rfl rfl) ?_
  refine Eq.trans (Eq.trans (k_icmpcN ((0 : Int) = 0) rfl (iI_ne ⟨by decide, by decide⟩ ⟨by decide, by decide⟩)) (cif_pos rfl)) ?_
  refine Eq.trans (k_aload rfl rfl) ?_
  refine Eq.trans (k_sv rfl h) ?_
  refine Eq.trans (k_pushi (0) rfl rfl) ?_
  refine Eq.trans (k_aload rfl rfl) ?_
  refine Eq.trans (k_iload rfl rfl) ?_
  refine Eq.trans (k_iload rfl rfl) ?_
  refine Eq.trans (k_bin rfl (sh_l0 _)) ?_
  refine Eq.trans (k_aload rfl rfl) ?_
  refine Eq.trans (k_sv rfl h) ?_
  refine Eq.trans (k_sl rfl h) ?_
  refine Eq.trans (e) ?_
  refine Eq.trans (k_goto rfl) ?_
  exact k_ret rfl
theorem c_371 {bs m c n1 : Nat} {n dp : Int} (h : ST n1 q V a b mb L) (hB : BD n0 q V bs m c n) (h2 : 0 ≤ dp ∧ dp < 1000) (h5 : dp + L.length ≤ (c : Int)) :
    ∃ W, RUN (d + 2) 371 (am_en 371 [aR 46 bs, aI (iI dp), aR a b]) (HM q V) = rV (HM q W) ∧ (∀ x z, (¬ x = 46 ∨ ¬ z = m) → W x z = V x z) ∧ ∀ j : Int, W 46 m j = if dp ≤ j ∧ j < dp + L.length then L.getD (j - dp).toNat 0 else V 46 m j := by
  obtain ⟨⟨hb, hm⟩, ⟨v1, v3⟩, ⟨bm, b1, b2, b3, b4, b5⟩, ⟨n1', n2, n3⟩, hf⟩ := id hB
  obtain ⟨W, e, w1, w2⟩ := c_373 (d := d) h hm h2 h5
  refine ⟨W, ?_, w1, w2⟩
  have e372 : RUN (d + 1) 372 (am_en 372 [aR 46 bs, aR a b]) (HM q V) = rV (HM q V) := by
    refine (show RUN (d + 1) 372 (0, [sR 46 bs, sR a b], []) (HM q V) = _ from ?_)
    refine Eq.trans (k_pushi (1) rfl rfl) ?_
    refine Eq.trans (Eq.trans (k_ifc ((1 : Int) = 0) rfl (iI_eq0 ⟨by decide, by decide⟩)) (cif_neg (by decide))) ?_
    refine Eq.trans (k_aload rfl rfl) ?_
    refine Eq.trans (k_getfi 1 rfl rfl hb rfl) ?_
    rw [v1]
    refine Eq.trans (k_aload rfl rfl) ?_
    refine Eq.trans (RUN_ci rfl (s0_or h rfl) rfl (c_182 h) (qle_refl _)) ?_
    refine Eq.trans (Eq.trans (k_icmpc ((0 : Int) = 0) rfl (iI_eq ⟨by decide, by decide⟩ ⟨by decide, by decide⟩)) (cif_pos rfl)) ?_
    exact k_ret rfl
  refine (show RUN (d + 2) 371 (0, [sR 46 bs, sI dp, sR a b], []) (HM q V) = _ from ?_)
  refine Eq.trans (k_aload rfl rfl) ?_
  refine Eq.trans (k_aload rfl rfl) ?_
  refine Eq.trans (RUN_ci rfl (c1_46 hb rfl) rfl e372 (qle_refl _)) ?_
  refine Eq.trans (k_aload rfl rfl) ?_
  refine Eq.trans (k_aload rfl rfl) ?_
  refine Eq.trans (k_getfr rfl hb rfl) ?_
  refine Eq.trans (k_iload rfl rfl) ?_
  refine Eq.trans (k_aload rfl rfl) ?_
  refine Eq.trans (k_getfi 1 rfl rfl hb rfl) ?_
  rw [v1]
  refine Eq.trans (RUN_ci rfl (s3_or h rfl) rfl e (qle_refl _)) ?_
  exact k_ret rfl
theorem c_367x {bs m c : Nat} {K : List Int} (h : ST q.2.1.1 q V a b mb L) (hB : BD n0 q V bs m c K.length) (hT : TX V m K) (hd : a = 46 → ¬ b = bs ∧ ¬ mb = bs) (hl : K.length + L.length ≤ 70) : ∃ q' V', RUN (d + 3) 367 (am_en 367 [aR 46 bs, aR a b]) (HM q V) = some (Sum.inl (some (aR 46 bs)), HM q' V') ∧ BT n0 q' V' bs (K ++ L) ∧ FS n0 1 200 q V q' V' := by
  obtain ⟨⟨hb, hm⟩, ⟨v1, v3⟩, ⟨bm, b1, b2, b3, b4, b5⟩, ⟨n1, n2, n3⟩, hf⟩ := id hB
  obtain ⟨q', V', m', c', e355, hB', hc', hk, ⟨hx1, hx2, hx3⟩, fr⟩ := c_355 (d := d) (x1 := (K.length : Int) + L.length) hB (by omega)
  obtain ⟨⟨hb', hm'⟩, ⟨v1', v3'⟩, ⟨bm', b1', b2', b3', b4', b5'⟩, ⟨n1', n2', n3'⟩, hf'⟩ := id hB'
  have h' : ST q.2.1.1 q' V' a b mb L := by
    obtain ⟨h1, h2⟩ := id h
    refine ⟨h1, ?_⟩
    rcases h2 with ⟨e, k1, g, k2, k3⟩ | ⟨e, k1, k2, k3, k4, k5, k6⟩
    · exact Or.inl ⟨e, by rw [fr.1.1.1, fr.1.1.2.1]; exact k1, g, by rw [fr.1.1.1, fr.1.1.2.1]; exact k2, k3⟩
    · obtain ⟨d1, d2⟩ := hd e
      refine Or.inr ⟨e, by rw [hx1 b d1 k5]; exact k1, by rw [hx2 b k5]; exact k2, by rw [hx1 mb d2 k6]; exact k3, fun i hi => ?_, k5, k6⟩
      rw [hx2 mb k6]
      exact k4 i hi
  obtain ⟨W, e371, wo, wm⟩ := c_371 (d := d) (dp := K.length) h' hB' (by omega) (by omega)
  have wb : ∀ j, W 46 bs j = V' 46 bs j := fun j => by rw [wo 46 bs (by omega)]
  have xb : ∀ j : Int, upV W 46 bs 3 ((K.length : Int) + L.length) 46 bs j = if j = 3 then (K.length : Int) + L.length else V' 46 bs j := fun j => by
    rw [upV_at, wb]
  have xm : ∀ j : Int, upV W 46 bs 3 ((K.length : Int) + L.length) 46 m' j = W 46 m' j := fun j => by
    rw [upV_off2 (by omega)]
  have fW : FS n0 0 0 q' V' q' W := ⟨adv_refl q', fun a z h => wo a z (by omega)⟩
  refine ⟨q', upV W 46 bs 3 ((K.length : Int) + L.length), ?_, ⟨m', c', ⟨⟨hb', hm'⟩, ⟨?_, ?_⟩, ⟨bm', b1', b2', b3', b4', b5'⟩, ⟨Int.ofNat_nonneg _, ?_, n3'⟩, fun j j1 j2 => ?_⟩, TX_app hT (fun i hi => ?_) (fun i hi => ?_)⟩, (fr.trans (fW.trans (FS.st b1'))).mono (Nat.le_refl _) (Nat.le_refl _) (Nat.le_refl _)⟩
  · refine (show RUN (d + 3) 367 (0, [sR 46 bs, sR a b, none], []) (HM q V) = _ from ?_)
    refine Eq.trans (k_aload rfl rfl) ?_
    refine Eq.trans (k_ifnonnull rfl) ?_
    refine Eq.trans (k_aload rfl rfl) ?_
    refine Eq.trans (RUN_ci rfl (s0_or h rfl) rfl (c_181 (d := d + 1) h) (qle_refl _)) ?_
    refine Eq.trans (k_store rfl) ?_
    refine Eq.trans (k_aload rfl rfl) ?_
    refine Eq.trans (k_aload rfl rfl) ?_
    refine Eq.trans (k_getfi 3 rfl rfl hb rfl) ?_
    rw [v3]
    refine Eq.trans (k_iload rfl rfl) ?_
    refine Eq.trans (k_bin rfl (iI_add _ _)) ?_
    refine Eq.trans (RUN_ci rfl (c1_46 hb rfl) rfl e355 fr.qle) ?_
    refine Eq.trans (k_aload rfl rfl) ?_
    refine Eq.trans (k_aload rfl rfl) ?_
    refine Eq.trans (k_getfi 3 rfl rfl hb' rfl) ?_
    rw [v3']
    refine Eq.trans (k_aload rfl rfl) ?_
    refine Eq.trans (RUN_ci rfl (c2_46 hb' rfl) rfl e371 (qle_refl _)) ?_
    refine Eq.trans (k_aload rfl rfl) ?_
    refine Eq.trans (k_dupR rfl) ?_
    refine Eq.trans (k_getfi 3 rfl rfl hb' rfl) ?_
    rw [wb, v3']
    refine Eq.trans (k_iload rfl rfl) ?_
    refine Eq.trans (k_bin rfl (iI_add _ _)) ?_
    refine Eq.trans (k_putfi 3 rfl rfl hb' rfl trivial) ?_
    refine Eq.trans (k_aload rfl rfl) ?_
    exact k_aretR rfl
  · rw [xb, if_neg (by decide)]
    exact v1'
  · rw [xb, if_pos rfl, List.length_append]
    omega
  · rw [List.length_append]
    omega
  · rw [xm, wm]
    split
    · have := h.1.1 (j - (K.length : Int)).toNat
      omega
    · exact hf' j j1 j2
  · rw [xm, wm, if_neg (by omega)]
    exact hk i (by omega) (by omega)
  · rw [xm, wm, if_pos (by omega), show ((K.length : Int) + i - (K.length : Int)).toNat = i by omega]
theorem c_367 {bs : Nat} {K : List Int} (h : ST n0 q V a b mb L) (hB : BT n0 q V bs K) (hl : K.length + L.length ≤ 70) : ∃ q' V', RUN (d + 3) 367 (am_en 367 [aR 46 bs, aR a b]) (HM q V) = some (Sum.inl (some (aR 46 bs)), HM q' V') ∧ BT n0 q' V' bs (K ++ L) ∧ FS n0 1 200 q V q' V' := by
  obtain ⟨m, c, hB, hT⟩ := hB
  have b3 := hB.2.2.1
  refine c_367x (h.mono (by omega)) hB hT (fun e => ?_) hl
  rcases h.2 with ⟨z, _⟩ | ⟨_, _, _, _, _, k5, k6⟩
  · omega
  · omega
theorem c_366 {bs : Nat} {K : List Int} (h : ST n0 q V a b mb L) (hB : BT n0 q V bs K) (hl : K.length + L.length ≤ 70) : ∃ q' V', RUN (d + 4) 366 (am_en 366 [aR 46 bs, aR a b]) (HM q V) = some (Sum.inl (some (aR 46 bs)), HM q' V') ∧ BT n0 q' V' bs (K ++ L) ∧ FS n0 1 200 q V q' V' := by
  obtain ⟨q', V', e, h', fr⟩ := c_367 (d := d) h hB hl
  obtain ⟨m, c, ⟨⟨hb, hm⟩, _⟩, _⟩ := hB
  refine ⟨q', V', ?_, h', fr⟩
  refine (show RUN (d + 4) 366 (0, [sR 46 bs, sR a b], []) (HM q V) = _ from ?_)
  refine Eq.trans (k_aload rfl rfl) ?_
  refine Eq.trans (k_aload rfl rfl) ?_
  refine Eq.trans (RUN_ci rfl (c1_46 hb rfl) rfl e fr.qle) ?_
  refine Eq.trans (k_popR rfl) ?_
  refine Eq.trans (k_aload rfl rfl) ?_
  exact k_aretR rfl
end
section
variable {d n0 b : Nat} {q : QQ} {V : VV} {L : List Int}
/-- a new builder is laid out -/
theorem c_351 (hb : q.1.2.2 b = some (Sum.inr (9, [aN, aI 0, aI 0, aI 0]))) (hn : 136 ≤ n0 ∧ n0 ≤ b ∧ b < q.2.1.1) (h3 : V 46 b 3 = 0) : ∃ q' V', RUN (d + 1) 351 (am_en 351 [aR 46 b]) (HM q V) = rV (HM q' V') ∧ BT n0 q' V' b [] ∧ FS n0 1 16 q V q' V' := by
  generalize hq2 : newQ q (some (Sum.inl (7, (16 : Int).toNat, fun _ => aN))) (16 : Int).toNat = q2
  have q2b : q2.1.2.2 b = some (Sum.inr (9, [aN, aI 0, aI 0, aI 0])) := by
    rw [← hq2, newQ_old (by omega)]
    exact hb
  have q2n : q2.1.2.2 q.2.1.1 = some (Sum.inl (7, 16, fun _ => aN)) := by
    rw [← hq2]
    exact newQ_at
  have q2c : q2.2.1 = (q.2.1.1 + 1, q.2.1.2 + 16) := by
    rw [← hq2]
    rfl
  have a2 : adv 1 16 n0 q q2 := by
    rw [← hq2]
    exact newQ_adv.mono (Nat.le_refl _) (Nat.le_refl _) (by omega)
  have vo : ∀ a x, (¬ a = 46 ∨ ¬ x = q.2.1.1) → setA V 46 q.2.1.1 (fun _ => 0) a x = V a x := fun a x z => set46_off z
  have xo : ∀ a x, (¬ a = 46 ∨ ¬ x = b) → upV (setA V 46 q.2.1.1 (fun _ => 0)) 46 b 1 0 a x = setA V 46 q.2.1.1 (fun _ => 0) a x := fun a x z => upV_off2 (by omega)
  refine ⟨setQ q2 b (some (Sum.inr (9, [aR 46 q.2.1.1, aI 0, aI 0, aI 0]))), upV (setA V 46 q.2.1.1 (fun _ => 0)) 46 b 1 0, ?_, ⟨q.2.1.1, 16, ⟨⟨setQ_at, ?_⟩, ⟨by rw [upV_at, if_pos rfl], ?_⟩, ⟨by omega, by omega, by omega, ?_, ?_, by omega⟩, ⟨by decide, by decide, by decide⟩, fun j j1 j2 => ?_⟩, fun i hi => absurd hi (Nat.not_lt_zero i)⟩, ⟨a2.trans (setQ_adv (by omega)), fun a x z => ?_⟩⟩
  · refine (show RUN (d + 1) 351 (0, [sR 46 b], []) (HM q V) = _ from ?_)
    refine Eq.trans (k_aload rfl rfl) ?_
    refine Eq.trans (k_pushi (16) rfl rfl) ?_
    refine Eq.trans (RUN_ci (r := none) rfl rfl rfl (?_ : RUN d 352 (am_en 352 [aR 46 b, aI (iI 16)]) (HM q V) = some (Sum.inl none, HM (setQ q2 b (some (Sum.inr (9, [aR 46 q.2.1.1, aI 0, aI 0, aI 0])))) (upV (setA V 46 q.2.1.1 (fun _ => 0)) 46 b 1 0))) ?_) (k_ret rfl)
    · refine (show RUN d 352 (0, [sR 46 b, sI 16], []) (HM q V) = _ from ?_)
      refine Eq.trans (k_aload rfl rfl) ?_
      refine Eq.trans (k_oinit46 rfl rfl) ?_
      refine Eq.trans (k_pushi (1) rfl rfl) ?_
      refine Eq.trans (Eq.trans (k_ifc ((1 : Int) = 0) rfl (iI_eq0 ⟨by decide, by decide⟩)) (cif_neg (by decide))) ?_
      refine Eq.trans (k_aload rfl rfl) ?_
      refine Eq.trans (k_iload rfl rfl) ?_
      refine Eq.trans (k_newB46 rfl (by omega) (by decide)) ?_
      rw [hq2]
      refine Eq.trans (k_putfr46 rfl q2b) ?_
      refine Eq.trans (k_aload rfl rfl) ?_
      refine Eq.trans (k_pushi (0) rfl rfl) ?_
      refine Eq.trans (k_putfi 1 rfl rfl (setQ_at (q := q2) (b := b) (s := some (Sum.inr (9, [aR 46 q.2.1.1, aI 0, aI 0, aI 0])))) rfl (Or.inl rfl)) ?_
      refine Eq.trans (k_goto rfl) ?_
      exact k_ret rfl
    · exact (a2.trans (setQ_adv (n0 := n0) (by omega))).qle
  · rw [setQ_old (by omega)]
    exact q2n
  · rw [upV_at, if_neg (by decide), vo 46 b (by omega)]
    exact h3
  · show b < q2.2.1.1
    rw [q2c]
    show b < q.2.1.1 + 1
    omega
  · show q.2.1.1 < q2.2.1.1
    rw [q2c]
    show q.2.1.1 < q.2.1.1 + 1
    omega
  · rw [xo 46 q.2.1.1 (by omega), set46_at]
    omega
  · rw [xo a x (by omega)]
    exact vo a x (by omega)
theorem c_382 {n : Int} (hn : 0 ≤ n ∧ n < 1000) : RUN d 382 (am_en 382 [aI (iI 0), aI (iI n)]) (HM q V) = rV (HM q V) := by
  refine (show RUN d 382 (0, [sI 0, sI n], []) (HM q V) = _ from ?_)
  refine Eq.trans (k_iload rfl rfl) ?_
  refine Eq.trans (k_iload rfl rfl) ?_
  refine Eq.trans (Eq.trans (k_icmpc ((0 : Int) ≤ n) rfl (iI_le ⟨by decide, by decide⟩ (by omega))) (cif_pos hn.1)) ?_
  exact k_ret rfl
/-- the row of a builder, as far as it is filled -/
theorem c_380 {m c : Nat} (hm : q.1.2.2 m = some (Sum.inl (7, c, fun _ => aN))) (hmn : m < q.2.1.1) (hn : 136 ≤ q.2.1.1) (hf : ∀ j : Int, 0 ≤ j → j < c → -128 ≤ V 46 m j ∧ V 46 m j ≤ 127) (hc : c < 200) (hl : L.length ≤ c) (hT : TX V m L) :
    ∃ q' V', RUN (d + 2) 380 (am_en 380 [aR 46 m, aI (iI 0), aI (iI (L.length : Int))]) (HM q V) = some (Sum.inl (some (aR 46 q.2.1.1)), HM q' V') ∧ q' = newQ q (some (Sum.inl (7, L.length, fun _ => aN))) L.length ∧ (∀ a x, (¬ a = 46 ∨ ¬ x = q.2.1.1) → V' a x = V a x) ∧ TX V' q.2.1.1 L := by
  by_cases z : (L.length : Int) = (c : Int)
  · have zc : L.length = c := by omega
    refine ⟨newQ q (some (Sum.inl (7, L.length, fun _ => aN))) L.length, setA V 46 q.2.1.1 (V 46 m), ?_, rfl, fun a x h => set46_off h, fun i hi => by rw [set46_at]; exact hT i hi⟩
    refine (show RUN (d + 2) 380 (0, [sR 46 m, sI 0, sI (L.length : Int)], []) (HM q V) = _ from ?_)
    refine Eq.trans (k_iload rfl rfl) ?_
    refine Eq.trans (Eq.trans (k_ifcN ((0 : Int) = 0) rfl (iI_ne0 ⟨by decide, by decide⟩)) (cif_pos rfl)) ?_
    refine Eq.trans (k_iload rfl rfl) ?_
    refine Eq.trans (k_aload rfl rfl) ?_
    refine Eq.trans (k_alen rfl hm) ?_
    refine Eq.trans (Eq.trans (k_icmpc ((L.length : Int) = (c : Int)) rfl (iI_eq (by omega) (by omega))) (cif_pos z)) ?_
    refine Eq.trans (k_aload rfl rfl) ?_
    refine Eq.trans (k_clone46 rfl hn rfl hm hf) ?_
    rw [← zc]
    refine Eq.trans (k_chkB46 rfl newQ_at) ?_
    exact k_aretR rfl
  · have nt : (L.length : Int).toNat = L.length := Int.toNat_natCast _
    generalize hq2 : newQ q (some (Sum.inl (7, L.length, fun _ => aN))) L.length = q2
    have q2m : q2.1.2.2 m = some (Sum.inl (7, c, fun _ => aN)) := by
      rw [← hq2, newQ_old (by omega)]
      exact hm
    have q2n : q2.1.2.2 q.2.1.1 = some (Sum.inl (7, L.length, fun _ => aN)) := by
      rw [← hq2]
      exact newQ_at
    have hq : qle q q2 := by
      rw [← hq2]
      exact newQ_adv.qle
    have hV : setA V 46 q.2.1.1 (fun _ => 0) 46 m = V 46 m := set46_off (Or.inr (by omega))
    have e381 : RUN (d + 1) 381 (am_en 381 [aR 46 m, aI (iI 0), aI (iI (L.length : Int))]) (HM q V) = some (Sum.inl (some (aR 46 q.2.1.1)), HM q2 (cpV (setA V 46 q.2.1.1 (fun _ => 0)) 46 q.2.1.1 46 m 0 0 L.length)) := by
      refine (show RUN (d + 1) 381 (0, [sR 46 m, sI 0, sI (L.length : Int), none, none], []) (HM q V) = _ from ?_)
      refine Eq.trans (k_iload rfl rfl) ?_
      refine Eq.trans (k_iload rfl rfl) ?_
      refine Eq.trans (RUN_ci rfl rfl rfl (c_382 (by omega)) (qle_refl _)) ?_
      refine Eq.trans (k_iload rfl rfl) ?_
      refine Eq.trans (k_iload rfl rfl) ?_
      refine Eq.trans (k_bin rfl (iI_sub _ _)) ?_
      refine Eq.trans (k_store rfl) ?_
      rw [show (L.length : Int) - 0 = L.length by omega]
      refine Eq.trans (k_iload rfl rfl) ?_
      refine Eq.trans (k_newB46 rfl hn (by omega)) ?_
      rw [nt, hq2]
      refine Eq.trans (k_astore rfl) ?_
      refine Eq.trans (k_aload rfl rfl) ?_
      refine Eq.trans (k_iload rfl rfl) ?_
      refine Eq.trans (k_aload rfl rfl) ?_
      refine Eq.trans (k_pushi (0) rfl rfl) ?_
      refine Eq.trans (k_aload rfl rfl) ?_
      refine Eq.trans (k_alen rfl q2m) ?_
      refine Eq.trans (k_iload rfl rfl) ?_
      refine Eq.trans (k_bin rfl (iI_sub _ _)) ?_
      rw [show (c : Int) - 0 = c by omega]
      refine Eq.trans (k_iload rfl rfl) ?_
      refine Eq.trans (k_m2 rfl rfl (iI_min (by omega) (by omega))) ?_
      rw [show min (c : Int) (L.length : Int) = L.length by omega]
      refine Eq.trans (k_acpyB46 rfl rfl q2n q2m (fun j j1 j2 => by rw [hV]; exact hf j j1 j2) ⟨by decide, by decide⟩ ⟨by decide, by decide⟩ (by omega) (by omega) (by omega)) ?_
      refine Eq.trans (k_aload rfl rfl) ?_
      exact k_aretR rfl
    refine ⟨q2, cpV (setA V 46 q.2.1.1 (fun _ => 0)) 46 q.2.1.1 46 m 0 0 L.length, ?_, rfl, fun a x h => ?_, fun i hi => ?_⟩
    · refine (show RUN (d + 2) 380 (0, [sR 46 m, sI 0, sI (L.length : Int)], []) (HM q V) = _ from ?_)
      refine Eq.trans (k_iload rfl rfl) ?_
      refine Eq.trans (Eq.trans (k_ifcN ((0 : Int) = 0) rfl (iI_ne0 ⟨by decide, by decide⟩)) (cif_pos rfl)) ?_
      refine Eq.trans (k_iload rfl rfl) ?_
      refine Eq.trans (k_aload rfl rfl) ?_
      refine Eq.trans (k_alen rfl hm) ?_
      refine Eq.trans (Eq.trans (k_icmpc ((L.length : Int) = (c : Int)) rfl (iI_eq (by omega) (by omega))) (cif_neg z)) ?_
      refine Eq.trans (k_aload rfl rfl) ?_
      refine Eq.trans (k_iload rfl rfl) ?_
      refine Eq.trans (k_iload rfl rfl) ?_
      refine Eq.trans (RUN_ci rfl rfl rfl e381 hq) ?_
      exact k_aretR rfl
    · rw [cp46_off h]
      exact set46_off h
    · rw [cpV_at (by omega), hV]
      exact hT i hi
/-- the text of a builder -/
theorem c_374 (hB : BT n0 q V b L) (asc : ∀ i : Nat, 0 ≤ L.getD i 0 ∧ L.getD i 0 < 128) : ∃ q' V' s mb, RUN (d + 5) 374 (am_en 374 [aR 46 b]) (HM q V) = some (Sum.inl (some (aR 46 s)), HM q' V') ∧ ST q'.2.1.1 q' V' 46 s mb L ∧ FS q.2.1.1 2 204 q V q' V' ∧ (q.2.1.1 ≤ s ∧ q.2.1.1 ≤ mb) := by
  obtain ⟨m, c, hB, hT⟩ := hB
  obtain ⟨⟨hb, hm⟩, ⟨v1, v3⟩, ⟨bm, b1, b2, b3, b4, b5⟩, ⟨n1, n2, n3⟩, hf⟩ := id hB
  have hn : 136 ≤ q.2.1.1 := by omega
  generalize hs : q.2.1.1 = s at *
  generalize hq2 : newQ q (some (Sum.inr (10, [aN, aI 0, aI 0, aI 0]))) 4 = q2
  have q2s : q2.1.2.2 s = some (Sum.inr (10, [aN, aI 0, aI 0, aI 0])) := by
    rw [← hq2, ← hs]
    exact newQ_at
  have q2o : ∀ x, ¬ x = s → q2.1.2.2 x = q.1.2.2 x := fun x z => by
    rw [← hq2, newQ_old (by omega)]
  have q2c : q2.2.1 = (s + 1, q.2.1.2 + 4) := by
    rw [← hq2, ← hs]
    rfl
  have q2b : q2.1.2.2 b = some (Sum.inr (9, [aR 46 m, aI 0, aI 0, aI 0])) := by rw [q2o b (by omega)]; exact hb
  have q2m : q2.1.2.2 m = some (Sum.inl (7, c, fun _ => aN)) := by rw [q2o m (by omega)]; exact hm
  have vo : ∀ a x, (¬ a = 46 ∨ ¬ x = s) → upV (setA V 46 s (fun _ => 0)) 46 s 1 0 a x = V a x := fun a x z => by
    rw [upV_off2 (by omega)]
    exact set46_off z
  have f2 : FS s 1 4 q V q2 (upV (setA V 46 s (fun _ => 0)) 46 s 1 0) := by
    refine ⟨?_, fun a x z => vo a x (by omega)⟩
    rw [← hq2, ← hs]
    exact newQ_adv
  have cs : q2.2.1.1 = s + 1 := by rw [q2c]
  obtain ⟨q3, V3, e380, h3, v3o, T3⟩ := c_380 (d := d) (q := q2) (V := upV (setA V 46 s (fun _ => 0)) 46 s 1 0) (L := L) q2m (by omega) (by omega) (fun j j1 j2 => by rw [vo 46 m (by omega)]; exact hf j j1 j2) n3 (by omega) (fun i hi => by rw [vo 46 m (by omega)]; exact hT i hi)
  rw [cs] at e380 v3o T3
  have q3s : q3.1.2.2 s = some (Sum.inr (10, [aN, aI 0, aI 0, aI 0])) := by
    rw [h3, newQ_old (by omega)]
    exact q2s
  have q3n : q3.1.2.2 (s + 1) = some (Sum.inl (7, L.length, fun _ => aN)) := by
    rw [h3, ← cs]
    exact newQ_at
  have q3c : q3.2.1.1 = s + 2 := by
    rw [h3]
    show q2.2.1.1 + 1 = _
    omega
  have a3 : adv 1 200 s q2 q3 := by
    rw [h3]
    exact newQ_adv.mono (Nat.le_refl _) (by omega) (by omega)
  have f3 : FS s 1 200 q2 (upV (setA V 46 s (fun _ => 0)) 46 s 1 0) q3 V3 := ⟨a3, fun a x z => v3o a x (by omega)⟩
  generalize hq4 : setQ q3 s (some (Sum.inr (10, [aR 46 (s + 1), aI 0, aI 0, aI 0]))) = q4
  have a4 : adv 0 0 s q3 q4 := by
    rw [← hq4]
    exact setQ_adv (Nat.le_refl _)
  have q4c : q4.2.1.1 = s + 2 := by
    rw [← hq4]
    exact q3c
  have a24 : qle q2 q4 := (a3.trans a4).qle
  have e376 : RUN (d + 3) 376 (am_en 376 [aR 46 s, aR 46 b, aN]) (HM q2 (setA V 46 s (fun _ => 0))) = rV (HM q4 V3) := by
    refine (show RUN (d + 3) 376 (0, [sR 46 s, sR 46 b, some aN, none, none], []) (HM q2 (setA V 46 s (fun _ => 0))) = _ from ?_)
    have sb : setA V 46 s (fun _ => 0) 46 b = V 46 b := set46_off (Or.inr (by omega))
    have e377 : RUN (d + 2) 377 (am_en 377 [aR 46 b]) (HM q2 (setA V 46 s (fun _ => 0))) = some (Sum.inl (some (aR 46 m)), HM q2 (setA V 46 s (fun _ => 0))) := by
      refine (show RUN (d + 2) 377 (0, [sR 46 b], []) (HM q2 (setA V 46 s (fun _ => 0))) = _ from ?_)
      refine Eq.trans (k_aload rfl rfl) ?_
      refine Eq.trans (k_getfr rfl q2b rfl) ?_
      exact k_aretR rfl
    have e379 : RUN (d + 1) 379 (am_en 379 [aR 46 b]) (HM q2 (setA V 46 s (fun _ => 0))) = rI L.length (HM q2 (setA V 46 s (fun _ => 0))) := by
      refine (show RUN (d + 1) 379 (0, [sR 46 b], []) (HM q2 (setA V 46 s (fun _ => 0))) = _ from ?_)
      refine Eq.trans (k_aload rfl rfl) ?_
      refine Eq.trans (k_getfi 3 rfl rfl q2b rfl) ?_
      rw [sb, v3]
      exact k_iret rfl trivial
    have e378 : RUN (d + 2) 378 (am_en 378 [aR 46 b]) (HM q2 (setA V 46 s (fun _ => 0))) = rI L.length (HM q2 (setA V 46 s (fun _ => 0))) := by
      refine (show RUN (d + 2) 378 (0, [sR 46 b], []) (HM q2 (setA V 46 s (fun _ => 0))) = _ from ?_)
      refine Eq.trans (k_aload rfl rfl) ?_
      refine Eq.trans (RUN_ci rfl (c0_46 q2b rfl) rfl e379 (qle_refl _)) ?_
      exact k_iret rfl trivial
    refine Eq.trans (k_aload rfl rfl) ?_
    refine Eq.trans (k_oinit46 rfl rfl) ?_
    refine Eq.trans (k_aload rfl rfl) ?_
    refine Eq.trans (RUN_ci rfl (c0_46 q2b rfl) rfl e377 (qle_refl _)) ?_
    refine Eq.trans (k_astore rfl) ?_
    refine Eq.trans (k_aload rfl rfl) ?_
    refine Eq.trans (RUN_ci rfl (c0_46 q2b rfl) rfl e378 (qle_refl _)) ?_
    refine Eq.trans (k_store rfl) ?_
    refine Eq.trans (k_aload rfl rfl) ?_
    refine Eq.trans (RUN_ci rfl (c0_46 q2b rfl) rfl (c_360 (d := d + 2) q2b rfl (by rw [sb]; exact v1)) (qle_refl _)) ?_
    refine Eq.trans (Eq.trans (k_ifc ((1 : Int) = 0) rfl (iI_eq0 ⟨by decide, by decide⟩)) (cif_neg (by decide))) ?_
    refine Eq.trans (k_aload rfl rfl) ?_
    refine Eq.trans (k_pushi (0) rfl rfl) ?_
    refine Eq.trans (k_putfi 1 rfl rfl q2s rfl (Or.inl rfl)) ?_
    refine Eq.trans (k_aload rfl rfl) ?_
    refine Eq.trans (k_aload rfl rfl) ?_
    refine Eq.trans (k_pushi (0) rfl rfl) ?_
    refine Eq.trans (k_iload rfl rfl) ?_
    refine Eq.trans (RUN_ci rfl rfl rfl e380 a3.qle) ?_
    refine Eq.trans (k_putfr46 rfl q3s) ?_
    rw [show [aN, aI 0, aI 0, aI 0].set 0 (aR 46 (s + 1)) = [aR 46 (s + 1), aI 0, aI 0, aI 0] from rfl, hq4]
    refine Eq.trans (k_goto rfl) ?_
    exact k_ret rfl
  have e375 : RUN (d + 4) 375 (am_en 375 [aR 46 s, aR 46 b]) (HM q2 (setA V 46 s (fun _ => 0))) = rV (HM q4 V3) := by
    refine (show RUN (d + 4) 375 (0, [sR 46 s, sR 46 b], []) (HM q2 (setA V 46 s (fun _ => 0))) = _ from ?_)
    refine Eq.trans (k_aload rfl rfl) ?_
    refine Eq.trans (k_aload rfl rfl) ?_
    refine Eq.trans (k_push rfl) ?_
    refine Eq.trans (RUN_ci rfl rfl rfl e376 a24) ?_
    exact k_ret rfl
  refine ⟨q4, V3, s, s + 1, ?_, ⟨⟨asc, by omega⟩, Or.inr ⟨rfl, by rw [← hq4]; exact setQ_at, ?_, ?_, T3, by omega, by omega⟩⟩, ((f2.trans f3).trans (⟨a4, fun _ _ _ => rfl⟩ : FS s 0 0 q3 V3 q4 V3)).mono (by decide) (by decide) (Nat.le_refl _), Nat.le_refl _, by omega⟩
  · refine (show RUN (d + 5) 374 (0, [sR 46 b], []) (HM q V) = _ from ?_)
    have en := k_new46 (d := d + 5) (y := 374) (pc := 0) (nx := 3) (ls := [sR 46 b]) (st := []) (q := q) (V := V) (c := 10) (N := 4) (fs := [aN, aI 0, aI 0, aI 0]) rfl (by omega)
    rw [hs, hq2] at en
    refine Eq.trans (en) ?_
    refine Eq.trans (k_dupR rfl) ?_
    refine Eq.trans (k_aload rfl rfl) ?_
    refine Eq.trans (RUN_ci rfl rfl rfl e375 a24) ?_
    exact k_aretR rfl
  · rw [v3o 46 s (by omega), upV_at, if_pos rfl]
  · rw [← hq4, setQ_old (by omega)]
    exact q3n
end
